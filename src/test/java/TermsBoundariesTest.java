/** Each sentence of "What it is" and "Terms" that names a boundary, but for programs and undo: a test of its own. */
public final class TermsBoundariesTest {
    private TermsBoundariesTest() {
    }

    public static void main(String[] args) {
        Check.test(TermsBoundariesTest::lastOf512Calls);
        Check.test(TermsBoundariesTest::lastOf512Changes);
        Check.test(TermsBoundariesTest::refusedChanges);
        Check.test(TermsBoundariesTest::refusedQuestions);
        Check.test(TermsBoundariesTest::refusedWaysBack);
        Check.test(TermsBoundariesTest::refusedTyping);
        Check.test(TermsBoundariesTest::refusedPrograms);
        Check.test(TermsBoundariesTest::firstOfTheExceptions);
        Check.test(TermsBoundariesTest::divisions);
        Check.test(TermsBoundariesTest::candlesAtMost);
        Check.test(TermsBoundariesTest::ranges);
        Check.test(TermsBoundariesTest::newCandleIsNotLit);
        Check.test(TermsBoundariesTest::draughts);
        Check.test(TermsBoundariesTest::consumptions);
        Check.test(TermsBoundariesTest::newDish);
        Check.test(TermsBoundariesTest::eventsAtMost);
        Check.test(TermsBoundariesTest::orderOfEvents);
        Check.test(TermsBoundariesTest::failureOfALitOne);
        Check.test(TermsBoundariesTest::failureOfOneWithoutWax);
        Check.test(TermsBoundariesTest::failureOfAnUnlitOne);
        Check.test(TermsBoundariesTest::failedEventsLeaveTheCandle);
        Check.test(TermsBoundariesTest::timeFirst);
        Check.test(TermsBoundariesTest::eventsSecond);
        Check.test(TermsBoundariesTest::burningThird);
        Check.test(TermsBoundariesTest::dripping);
        Check.test(TermsBoundariesTest::goingOut);
        Check.test(TermsBoundariesTest::darkness);
        Check.end();
    }

    private static void lastOf512Calls() {
        Check.sentence("What it is", "An object is used for at most 512 calls after it has been made");
        CandleConcert x = new CandleConcert();
        for (int i = 0; i < 511; i++) {
            x.pass(240);
        }
        Check.due("time", 511 * 240, x.time());
        CandleConcert y = new CandleConcert();
        y.addCandle('s', 1, 1);
        for (int minute = 1; minute <= 255; minute++) {
            y.schedule(minute, 0, false);
            y.pass(1);
        }
        Check.due("failedEvents", 255, y.failedEvents());
        CandleConcert z = new CandleConcert();
        for (int i = 0; i < 511; i++) {
            Check.answer(() -> z.type('w'));
        }
        Check.refused("run", Refusals.ARGUMENT, () -> z.run());
    }

    private static void lastOf512Changes() {
        Check.sentence("What it is", "An object is used for at most 512 calls after it has been made");
        CandleConcert x = new CandleConcert();
        for (int i = 0; i < 503; i++) {
            x.pass(1);
        }
        for (int left = 7; left >= 0; left--) {
            Check.due("undo", left, x.undo());
        }
        Check.due("time", 495, x.time());
    }

    private static void refusedChanges() {
        changesNothing();
        Refusals.check("addCandle", Refusals.ARGUMENT, Concerts::lively, x -> x.addCandle('x', 5, 5));
        Refusals.check("addCandle", Refusals.ARGUMENT, Concerts::lively, x -> x.addCandle('s', 1000, 5));
        Refusals.check("addCandle", Refusals.ARGUMENT, Concerts::lively, x -> x.addCandle('s', 5, 10));
        Refusals.check("addCandle", Refusals.STATE, Concerts::full, x -> x.addCandle('s', 5, 5));
        Refusals.check("light", Refusals.INDEX, Concerts::lively, x -> x.light(3));
        Refusals.check("light", Refusals.STATE, Concerts::lively, x -> x.light(1));
        Refusals.check("light", Refusals.UNSUPPORTED, Concerts::lively, x -> x.light(0));
        Refusals.check("snuff", Refusals.INDEX, Concerts::lively, x -> x.snuff(3));
        Refusals.check("snuff", Refusals.STATE, Concerts::lively, x -> x.snuff(2));
        Refusals.check("pour", Refusals.INDEX, Concerts::lively, x -> x.pour(3, 1));
        Refusals.check("pour", Refusals.ARGUMENT, Concerts::lively, x -> x.pour(2, 0));
        Refusals.check("pour", Refusals.STATE, Concerts::lively, x -> x.pour(1, 1));
        Refusals.check("pour", Refusals.STATE, Concerts::lively, x -> x.pour(2, 10));
        Refusals.check("pour", Refusals.UNSUPPORTED, Concerts::lively, x -> x.pour(2, 4));
        Refusals.check("setDraught", Refusals.ARGUMENT, Concerts::lively, x -> x.setDraught(4));
        Refusals.check("schedule", Refusals.ARGUMENT, Concerts::lively, x -> x.schedule(4, 2, true));
        Refusals.check("schedule", Refusals.INDEX, Concerts::lively, x -> x.schedule(5, 3, true));
        Refusals.check("schedule", Refusals.STATE, Concerts::full, x -> x.schedule(5, 2, true));
        Refusals.check("unschedule", Refusals.INDEX, Concerts::lively, x -> x.unschedule(1));
        Refusals.check("pass", Refusals.ARGUMENT, Concerts::lively, x -> x.pass(0));
        Refusals.check("pass", Refusals.ARGUMENT, Concerts::lively, x -> x.pass(241));
    }

    private static void refusedQuestions() {
        changesNothing();
        Refusals.check("voice", Refusals.INDEX, Concerts::lively, x -> x.voice(3));
        Refusals.check("wax", Refusals.INDEX, Concerts::lively, x -> x.wax(3));
        Refusals.check("consumption", Refusals.INDEX, Concerts::lively, x -> x.consumption(3));
        Refusals.check("isLit", Refusals.INDEX, Concerts::lively, x -> x.isLit(3));
        Refusals.check("sounding", Refusals.ARGUMENT, Concerts::lively, x -> x.sounding('x'));
        Refusals.check("minutesLeft", Refusals.INDEX, Concerts::lively, x -> x.minutesLeft(3));
        Refusals.check("minutesLeftByBurning", Refusals.INDEX, Concerts::lively, x -> x.minutesLeftByBurning(3));
        Refusals.check("candleByWax", Refusals.NO_ELEMENT, Concerts::lively, x -> x.candleByWax(3));
        Refusals.check("eventMinute", Refusals.INDEX, Concerts::lively, x -> x.eventMinute(1));
        Refusals.check("eventCandle", Refusals.INDEX, Concerts::lively, x -> x.eventCandle(1));
        Refusals.check("isLighting", Refusals.INDEX, Concerts::lively, x -> x.isLighting(1));
        Refusals.check("failureReason", Refusals.NO_ELEMENT, Concerts::two, x -> x.failureReason());
        Refusals.check("lastCandle", Refusals.NO_ELEMENT, Concerts::two, x -> x.lastCandle());
        Refusals.check("loudestVoice", Refusals.NO_ELEMENT, Concerts::two, x -> x.loudestVoice());
        Refusals.check("meanWax", Refusals.ARITHMETIC, CandleConcert::new, x -> x.meanWax());
        Refusals.check("litShare", Refusals.ARITHMETIC, CandleConcert::new, x -> x.litShare());
        Refusals.check("writeCandle", Refusals.INDEX, Concerts::lively, x -> x.writeCandle(3));
        Refusals.check("charAt", Refusals.INDEX, Concerts::lively, x -> x.charAt(9));
        Refusals.check("errorPosition", Refusals.NO_ELEMENT, Concerts::two, x -> x.errorPosition());
        Refusals.check("failedCommand", Refusals.NO_ELEMENT, Concerts::two, x -> x.failedCommand());
    }

    private static void refusedWaysBack() {
        changesNothing();
        Refusals.check("undo", Refusals.STATE, TermsBoundariesTest::justRestored, x -> x.undo());
        Refusals.check("restore", Refusals.STATE, Concerts::two, x -> x.restore());
    }

    /** Much is in it, but nothing can be undone. */
    private static CandleConcert justRestored() {
        CandleConcert x = Concerts.lively();
        x.save();
        x.pass(2);
        x.restore();
        return x;
    }

    private static void refusedTyping() {
        changesNothing();
        Refusals.check("type", Refusals.STATE, TermsBoundariesTest::typedFull, x -> x.type('x'));
    }

    private static CandleConcert typedFull() {
        CandleConcert x = Concerts.lively();
        Check.type(x, ";draught 3;wait 2;wait;wait;wait;wait;wait;wait;wait 5");
        return x;
    }

    private static void changesNothing() {
        Check.sentence("Terms", "A method that throws an exception changes nothing");
    }

    private static void refusedPrograms() {
        Check.sentence("Terms", "except that run() empties the program buffer and records a syntax error or a failed "
            + "command");
        CandleConcert x = Concerts.lively();
        String state = Answers.ofState(x);
        Check.type(x, ";light 2;");
        Check.refused("no program", Refusals.ARGUMENT, () -> x.run());
        Check.due("state after no program", state, Answers.ofState(x));
        Check.due("error position of no program", 15, x.errorPosition());
        Check.due("failed command after no program", 1, x.failedCommand());
        Check.due("buffer after no program", 1, x.type('w'));
        Check.type(x, "ait;light 2;light 2");
        Check.refused("failing command", Refusals.UNSUPPORTED, () -> x.run());
        Check.due("state after a failing command", state, Answers.ofState(x));
        Check.due("error position after a failing command", 15, x.errorPosition());
        Check.due("failed command", 2, x.failedCommand());
        Check.due("buffer after a failing command", 1, x.type('w'));
        Check.due("line", "1b=112/4*", Answers.ofLine(x));
        Check.due("undo", 7, x.undo());
    }

    private static void firstOfTheExceptions() {
        Check.sentence("Terms", "If several conditions for an exception hold, the exception that is listed first is "
            + "thrown");
        CandleConcert full = Concerts.full();
        Check.refused("no such voice, 10 candles", Refusals.ARGUMENT, () -> full.addCandle('x', 5, 5));
        Check.refused("wax 0, 10 candles", Refusals.ARGUMENT, () -> full.addCandle('s', 0, 5));
        Check.refused("rate 10, 10 candles", Refusals.ARGUMENT, () -> full.addCandle('s', 5, 10));
        Check.refused("minute 0, 20 events", Refusals.ARGUMENT, () -> full.schedule(0, 5, true));
        Check.refused("minute 1000, 20 events", Refusals.ARGUMENT, () -> full.schedule(1000, 5, true));
        Check.refused("no such candle, 20 events", Refusals.INDEX, () -> full.schedule(5, 10, true));
        Check.refused("minute 0, no such candle, 20 events", Refusals.ARGUMENT, () -> full.schedule(0, 10, true));
        firstOfThePouring();
        CandleConcert x = Concerts.two();
        Check.refused("minute 0, no such candle", Refusals.ARGUMENT, () -> x.schedule(0, 2, true));
        Check.refused("minute 1000, no such candle", Refusals.ARGUMENT, () -> x.schedule(1000, -1, true));
        Check.refused("a failing command, no program", Refusals.ARGUMENT, () -> Check.run(x, "light 2;x"));
        Check.refused("no failed command", Refusals.NO_ELEMENT, () -> x.failedCommand());
    }

    /** Candle 1 is lit, candle 2 has 990 units, the dish has 3. */
    private static void firstOfThePouring() {
        CandleConcert x = Concerts.lively();
        Check.refused("no such candle, no units", Refusals.INDEX, () -> x.pour(3, 0));
        Check.refused("no such candle, 1000 units", Refusals.INDEX, () -> x.pour(-1, 1000));
        Check.refused("no such candle, dish has less", Refusals.INDEX, () -> x.pour(3, 4));
        Check.refused("no units, lit", Refusals.ARGUMENT, () -> x.pour(1, 0));
        Check.refused("1000 units, lit, too much, dish has less", Refusals.ARGUMENT, () -> x.pour(1, 1000));
        Check.refused("1000 units, too much, dish has less", Refusals.ARGUMENT, () -> x.pour(2, 1000));
        Check.refused("1000 units, dish has less", Refusals.ARGUMENT, () -> x.pour(0, 1000));
        Check.refused("lit, dish has less", Refusals.STATE, () -> x.pour(1, 4));
        Check.refused("too much, dish has less", Refusals.STATE, () -> x.pour(2, 10));
    }

    private static void divisions() {
        Check.sentence("Terms", "All integer divisions are rounded down");
        int[][] waxRateMinutes = {{12, 6, 2}, {13, 6, 3}, {17, 6, 3}, {18, 6, 3}, {19, 6, 4}, {1, 9, 1}, {9, 9, 1},
            {10, 9, 2}, {999, 9, 111}, {998, 9, 111}, {990, 9, 110}};
        for (int[] row : waxRateMinutes) {
            CandleConcert x = new CandleConcert();
            x.addCandle('s', row[0], row[1]);
            Check.due(row[0] + " units at rate " + row[1], row[2], x.minutesLeft(0));
        }
    }

    private static void candlesAtMost() {
        Check.sentence("Terms", "There are at most 10 candles, numbered from 0 in the order in which they were added");
        CandleConcert x = new CandleConcert();
        for (int i = 0; i < 10; i++) {
            Check.due("number", i, x.addCandle('s', 900 - i, 1));
        }
        Check.refused("an eleventh", Refusals.STATE, () -> x.addCandle('s', 5, 5));
        Check.due("candles", 10, x.candles());
        for (int i = 0; i < 10; i++) {
            Check.due("wax of " + i, 900 - i, x.wax(i));
        }
        Check.refused("wax of 10", Refusals.INDEX, () -> x.wax(10));
    }

    private static void ranges() {
        Check.sentence("Terms", "A candle has a voice, which is one of the letters s (soprano), a (alto), t (tenor) "
            + "and b (bass), wax from 0 to 999 units, and a rate from 1 to 9");
        CandleConcert x = new CandleConcert();
        x.addCandle('s', 999, 1);
        x.addCandle('a', 5, 5);
        x.addCandle('t', 999, 9);
        x.addCandle('b', 998, 2);
        String voices = "" + x.voice(0) + x.voice(1) + x.voice(2) + x.voice(3);
        Check.due("voices", "satb", voices);
        Check.due("the most wax", 999, x.wax(0));
        Check.due("least rate", 1, x.consumption(0));
        Check.due("greatest rate", 9, x.consumption(2));
        x.light(1);
        x.pass(1);
        Check.due("the least wax", 0, x.wax(1));
        x.pass(1);
        Check.due("no less", 0, x.wax(1));
        Check.due("the most by pouring", 999, x.pour(3, 1));
        Check.due("no units without a candle that is lit", 0, x.pass(1));
    }

    private static void newCandleIsNotLit() {
        Check.sentence("Terms", "A candle is lit or not; a new candle is not lit");
        CandleConcert x = Concerts.oneLit(1, 1);
        x.addCandle('s', 1, 1);
        Check.due("new one", false, x.isLit(1));
        Check.due("old one", true, x.isLit(0));
        x.light(1);
        x.undo();
        x.undo();
        x.addCandle('s', 1, 1);
        Check.due("new in the place of a lit one that is undone", false, x.isLit(1));
        Check.due("lit candles", 1, x.litCandles());
    }

    private static void draughts() {
        Check.sentence("Terms", "The draught is a number from 0 to 3, initially 0");
        CandleConcert x = new CandleConcert();
        Check.due("initially", 0, x.draught());
        for (int draught = 0; draught <= 3; draught++) {
            x.setDraught(draught);
            Check.due("set", draught, x.draught());
        }
        Check.refused("4", Refusals.ARGUMENT, () -> x.setDraught(4));
        Check.refused("-1", Refusals.ARGUMENT, () -> x.setDraught(-1));
        Check.due("after both", 3, x.draught());
    }

    private static void consumptions() {
        Check.sentence("Terms", "The consumption of a candle is its rate plus the draught");
        CandleConcert x = new CandleConcert();
        x.addCandle('s', 999, 1);
        x.addCandle('s', 999, 9);
        x.light(0);
        x.light(1);
        for (int draught = 0; draught <= 3; draught++) {
            x.setDraught(draught);
            Check.due("least at draught " + draught, 1 + draught, x.consumption(0));
            Check.due("greatest at draught " + draught, 9 + draught, x.consumption(1));
            Check.due("burning at draught " + draught, 10 + 2 * draught, x.pass(1));
        }
    }

    private static void newDish() {
        Check.sentence("Terms", "The dish contains a number of units of wax, initially 0");
        CandleConcert x = new CandleConcert();
        Check.due("initially", 0, x.dish());
        x.addCandle('s', 12, 6);
        Check.refused("a unit of it", Refusals.UNSUPPORTED, () -> x.pour(0, 1));
        x.light(0);
        x.pass(2);
        Check.due("two drips", 2, x.dish());
        x.pour(0, 2);
        Check.due("emptied", 0, x.dish());
    }

    private static void eventsAtMost() {
        Check.sentence("Terms", "At most 20 events are scheduled");
        CandleConcert x = Concerts.two();
        for (int i = 0; i < 20; i++) {
            x.schedule(7, 0, true);
        }
        Check.due("events", 20, x.events());
        Check.refused("one more", Refusals.STATE, () -> x.schedule(7, 0, true));
        Check.due("events after it", 20, x.events());
        x.unschedule(19);
        Check.due("room for one again", 19, x.schedule(7, 1, false));
        Check.refused("but not for two", Refusals.STATE, () -> x.schedule(7, 1, false));
        x.pass(7);
        Check.due("all carried out", 0, x.events());
        Check.due("room for 20 again", 0, x.schedule(8, 0, true));
    }

    private static void orderOfEvents() {
        Check.sentence("Terms", "The events are ordered by their minutes in ascending order; events with the same "
            + "minute are in the order in which they were scheduled");
        CandleConcert x = Concerts.ten();
        int[] minutes = {5, 999, 1, 5, 1, 999, 5, 4, 6, 1};
        int[] positions = {0, 1, 0, 2, 1, 5, 4, 2, 6, 2};
        for (int i = 0; i < minutes.length; i++) {
            Check.due("position of " + minutes[i] + ", candle " + i, positions[i],
                x.schedule(minutes[i], i, i % 3 == 0));
        }
        x.writeEvents();
        Check.due("order", "1s2 1s4 1l9 4s7 5l0 5l3 5l6 6s8 999s1 999s5", Answers.ofLine(x));
    }

    private static void failureOfALitOne() {
        Check.sentence("Terms", "An event fails if it is to light a candle that is lit");
        CandleConcert x = Concerts.oneLit(20, 1);
        x.addCandle('s', 1, 1);
        x.schedule(1, 0, true);
        x.schedule(2, 1, true);
        x.pass(1);
        Check.due("failed", 1, x.failedEvents());
        Check.due("reason", 'l', x.failureReason());
        x.pass(1);
        Check.due("to light one that is not lit and has 1 unit does not fail", 1, x.failedEvents());
        Check.due("it burnt", 0, x.wax(1));
    }

    private static void failureOfOneWithoutWax() {
        Check.sentence("Terms", "An event fails if it is to light a candle that .. has no wax");
        CandleConcert x = Concerts.oneLit(2, 1);
        x.schedule(3, 0, true);
        x.pass(2);
        Check.due("none failed", 0, x.failedEvents());
        x.pass(1);
        Check.due("failed", 1, x.failedEvents());
        Check.due("reason", 'w', x.failureReason());
        CandleConcert y = Concerts.oneLit(2, 1);
        y.schedule(2, 0, true);
        y.pass(2);
        Check.due("in its last minute it is still lit", 'l', y.failureReason());
    }

    private static void failureOfAnUnlitOne() {
        Check.sentence("Terms", "An event fails if it is .. to snuff a candle that is not lit");
        CandleConcert x = Concerts.oneLit(3, 1);
        x.schedule(1, 0, false);
        x.schedule(1, 0, false);
        x.pass(1);
        Check.due("the second failed", 1, x.failedEvents());
        Check.due("reason", 'n', x.failureReason());
        Check.due("snuffed before it burnt", 3, x.wax(0));
        x.light(0);
        x.pass(3);
        x.schedule(5, 0, false);
        x.pass(1);
        Check.due("one that has gone out", 2, x.failedEvents());
        Check.due("its reason", 'n', x.failureReason());
    }

    private static void failedEventsLeaveTheCandle() {
        Check.sentence("Terms", "then the candle does not change");
        CandleConcert x = Concerts.oneLit(20, 1);
        x.addCandle('a', 1, 1);
        x.addCandle('t', 7, 2);
        x.light(1);
        x.pass(1);
        x.schedule(2, 0, true);
        x.schedule(2, 1, true);
        x.schedule(2, 2, false);
        Check.due("only candle 0 burns", 1, x.pass(1));
        Check.due("failed", 3, x.failedEvents());
        x.writeCandle(0);
        Check.due("lit one", "0s=18/1*", Answers.ofLine(x));
        x.writeCandle(1);
        Check.due("one without wax", "1a=0/1", Answers.ofLine(x));
        x.writeCandle(2);
        Check.due("unlit one", "2t=7/2", Answers.ofLine(x));
    }

    private static void timeFirst() {
        Check.sentence("Terms", "First, the time, which is initially 0, increases by 1");
        CandleConcert x = new CandleConcert();
        Check.due("initially", 0, x.time());
        x.pass(1);
        Check.due("one minute", 1, x.time());
        x.addCandle('s', 9, 1);
        x.schedule(2, 0, true);
        Check.due("an event of the next minute is carried out in it", 1, x.pass(1));
        Check.due("two minutes", 2, x.time());
    }

    private static void eventsSecond() {
        Check.sentence("Terms", "Second, the events whose minute is the time are carried out in their order, and are "
            + "not scheduled any more");
        CandleConcert x = Concerts.two();
        x.schedule(3, 0, true);
        x.schedule(2, 0, true);
        x.schedule(2, 0, false);
        x.schedule(2, 1, false);
        x.schedule(2, 0, true);
        x.pass(1);
        Check.due("none is due", 5, x.events());
        Check.due("light, snuff, fail, light, and it burns", 6, x.pass(1));
        Check.due("failed", 1, x.failedEvents());
        Check.due("reason", 'n', x.failureReason());
        Check.due("left, the failed one too is gone", 1, x.events());
        Check.due("minute of the one that is left", 3, x.eventMinute(0));
        x.pass(1);
        Check.due("none is left", 0, x.events());
        Check.due("the last one failed", 'l', x.failureReason());
    }

    private static void burningThird() {
        Check.sentence("Terms", "Third, every lit candle burns, in the order of the numbers of the candles: its wax "
            + "decreases by its consumption, or to 0 if it has less");
        CandleConcert x = new CandleConcert();
        int[] wax = {7, 6, 5, 1, 8};
        for (int units : wax) {
            x.addCandle('s', units, 6);
        }
        for (int candle = 0; candle < 4; candle++) {
            x.light(candle);
        }
        Check.due("decrease", 6 + 6 + 5 + 1, x.pass(1));
        int[] left = {1, 0, 0, 0, 8};
        for (int candle = 0; candle < 5; candle++) {
            Check.due("wax of " + candle, left[candle], x.wax(candle));
        }
        Check.due("three went out, in the order of their numbers", 3, x.lastCandle());
    }

    private static void dripping() {
        Check.sentence("Terms", "if it decreases by 5 units or more, 1 of these units drips into the dish; the other "
            + "units are burnt");
        int[][] waxRateDraughtDishBurnt = {{20, 4, 0, 0, 4}, {20, 5, 0, 1, 4}, {20, 6, 0, 1, 5}, {20, 4, 1, 1, 4},
            {20, 1, 3, 0, 4}, {20, 9, 3, 1, 11}, {4, 9, 3, 0, 4}, {5, 9, 3, 1, 4}, {6, 9, 0, 1, 5}, {1, 1, 0, 0, 1},
            {4, 4, 0, 0, 4}, {5, 5, 0, 1, 4}};
        for (int[] row : waxRateDraughtDishBurnt) {
            CandleConcert x = Concerts.oneLit(row[0], row[1]);
            x.setDraught(row[2]);
            x.pass(1);
            String what = row[0] + " units at rate " + row[1] + " and draught " + row[2];
            Check.due("dish from " + what, row[3], x.dish());
            Check.due("burnt of " + what, row[4], x.burnt());
        }
        CandleConcert x = Concerts.oneLit(20, 4);
        x.addCandle('s', 20, 4);
        x.light(1);
        x.pass(2);
        Check.due("4 and 4 do not add up to a drip", 0, x.dish());
    }

    private static void goingOut() {
        Check.sentence("Terms", "A candle without wax then goes out, which means that it is not lit any more");
        CandleConcert x = Concerts.oneLit(12, 6);
        x.pass(1);
        Check.due("with wax it stays lit", true, x.isLit(0));
        Check.refused("with wax it has not gone out", Refusals.NO_ELEMENT, () -> x.lastCandle());
        x.pass(1);
        Check.due("without wax", false, x.isLit(0));
        Check.due("lit candles", 0, x.litCandles());
        Check.due("it went out", 0, x.lastCandle());
        Check.refused("snuff it", Refusals.STATE, () -> x.snuff(0));
    }

    private static void darkness() {
        Check.sentence("Terms", "The concert is dark if no candle is lit and no event is scheduled");
        CandleConcert x = Concerts.two();
        Check.due("neither", 0, x.minutesUntilDark());
        x.schedule(2, 0, false);
        Check.due("an event, which fails", 2, x.minutesUntilDark());
        x.light(1);
        Check.due("an event and a lit candle", 6, x.minutesUntilDark());
        x.unschedule(0);
        x.pass(5);
        Check.due("a lit candle, for its last minute", 1, x.minutesUntilDark());
        x.pass(1);
        Check.due("neither again", 0, x.minutesUntilDark());
    }
}
