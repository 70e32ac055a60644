/** Each boundary that the promises 7 to 9 and 20 to 25 name: a test of its own. */
public final class EventsBoundariesTest {
    private static final int MIN = Integer.MIN_VALUE;
    private static final int MAX = Integer.MAX_VALUE;

    private EventsBoundariesTest() {
    }

    public static void main(String[] args) {
        Check.test(EventsBoundariesTest::scheduledMinute);
        Check.test(EventsBoundariesTest::scheduledMinuteLater);
        Check.test(EventsBoundariesTest::scheduleMinuteOutOfRange);
        Check.test(EventsBoundariesTest::scheduleNoSuchCandle);
        Check.test(EventsBoundariesTest::scheduleAtMost20);
        Check.test(EventsBoundariesTest::scheduledKind);
        Check.test(EventsBoundariesTest::scheduledPosition);
        Check.test(EventsBoundariesTest::scheduledPositionAmongEqualMinutes);
        Check.test(EventsBoundariesTest::positionsFrom0);
        Check.test(EventsBoundariesTest::unschedulePositions);
        Check.test(EventsBoundariesTest::unscheduleNoSuchPosition);
        Check.test(EventsBoundariesTest::unscheduledDoesNotHappen);
        Check.test(EventsBoundariesTest::passedMinutes);
        Check.test(EventsBoundariesTest::passOutOfRange);
        Check.test(EventsBoundariesTest::passedDecrease);
        Check.test(EventsBoundariesTest::passedDecreaseOfNothing);
        Check.test(EventsBoundariesTest::passedAtOnceOrOneByOne);
        Check.test(EventsBoundariesTest::numberOfEvents);
        Check.test(EventsBoundariesTest::questionsAboutNoSuchPosition);
        Check.test(EventsBoundariesTest::answersOfEvents);
        Check.test(EventsBoundariesTest::numberOfFailures);
        Check.test(EventsBoundariesTest::latestReason);
        Check.test(EventsBoundariesTest::noReason);
        Check.end();
    }

    private static void scheduledMinute() {
        Check.sentence("Promise 7", "`minute`: the minute, from the time plus 1 to the time plus 999");
        CandleConcert x = Concerts.two();
        Check.due("time plus 1", 0, x.schedule(1, 0, true));
        Check.due("time plus 999", 1, x.schedule(999, 0, true));
        Check.due("first minute", 1, x.eventMinute(0));
        Check.due("last minute", 999, x.eventMinute(1));
        Check.due("the first is carried out in the next minute", 6, x.pass(1));
        Check.due("one is left", 1, x.events());
        for (int i = 0; i < 4; i++) {
            x.pass(240);
        }
        x.pass(37);
        Check.due("time", 998, x.time());
        Check.due("still one", 1, x.events());
        x.pass(1);
        Check.due("none", 0, x.events());
    }

    private static void scheduledMinuteLater() {
        Check.sentence("Promise 7", "`minute`: the minute, from the time plus 1 to the time plus 999");
        CandleConcert x = Concerts.two();
        for (int i = 0; i < 300; i++) {
            x.pass(240);
        }
        int time = 300 * 240;
        for (int minute : new int[] {time, time + 1000, time - 1, 1, 999, 0, time - 65535, time + 65536}) {
            Check.refused("minute " + minute + " at " + time, Refusals.ARGUMENT, () -> x.schedule(minute, 0, true));
        }
        Check.due("time plus 999", 0, x.schedule(time + 999, 0, true));
        Check.due("time plus 1", 0, x.schedule(time + 1, 0, true));
    }

    private static void scheduleMinuteOutOfRange() {
        Check.sentence("Promise 7", "Throws `IllegalArgumentException` if the minute is out of range");
        CandleConcert x = Concerts.two();
        for (int minute : new int[] {0, 1000, -1, 1001, MIN, MAX, -999, MIN + 1, MAX - 999}) {
            Check.refused("minute " + minute, Refusals.ARGUMENT, () -> x.schedule(minute, 0, true));
        }
        x.pass(1);
        for (int minute : new int[] {1, 1001, 0, MIN, MIN + 1, MIN + 2, MIN + 1000, MAX}) {
            Check.refused("minute " + minute + " at 1", Refusals.ARGUMENT, () -> x.schedule(minute, 0, true));
        }
        Check.due("events", 0, x.events());
        Check.due("1000 at time 1", 0, x.schedule(1000, 0, true));
        Check.due("2 at time 1", 0, x.schedule(2, 0, true));
        x.undo();
        x.undo();
        x.undo();
        Check.refused("1000 at time 0 again", Refusals.ARGUMENT, () -> x.schedule(1000, 0, true));
        Check.due("1 at time 0 again", 0, x.schedule(1, 0, true));
    }

    private static void scheduleNoSuchCandle() {
        Check.sentence("Promise 7", "Throws `IndexOutOfBoundsException` if there is no such candle");
        int[] counts = {0, 2, 10};
        for (int count : counts) {
            CandleConcert x = count == 0 ? new CandleConcert() : count == 2 ? Concerts.two() : Concerts.ten();
            for (int candle : new int[] {-1, count, count + 1, 10, 11, MIN, MAX}) {
                Check.refused("to light " + candle + " of " + count, Refusals.INDEX, () -> x.schedule(5, candle, true));
                Check.refused("to snuff " + candle + " of " + count, Refusals.INDEX,
                    () -> x.schedule(5, candle, false));
            }
            Check.due("events", 0, x.events());
        }
        Check.due("the last of ten", 0, Concerts.ten().schedule(5, 9, true));
    }

    private static void scheduleAtMost20() {
        Check.sentence("Promise 7", "Throws `IllegalStateException` if 20 events are scheduled");
        CandleConcert x = Concerts.two();
        for (int i = 0; i < 19; i++) {
            x.schedule(40 - i, 0, true);
        }
        Check.due("the 20th", 19, x.schedule(41, 1, true));
        Check.refused("the 21st in front", Refusals.STATE, () -> x.schedule(1, 0, true));
        Check.refused("the 21st between", Refusals.STATE, () -> x.schedule(30, 0, true));
        Check.refused("the 21st at the end", Refusals.STATE, () -> x.schedule(999, 0, true));
        Check.due("events", 20, x.events());
        Check.due("first minute", 22, x.eventMinute(0));
        Check.due("last minute", 41, x.eventMinute(19));
        x.pass(22);
        Check.due("one carried out, one more has room", 19, x.schedule(999, 0, true));
        Check.refused("and no other", Refusals.STATE, () -> x.schedule(999, 0, true));
    }

    private static void scheduledKind() {
        Check.sentence("Promise 7", "`isLighting`: true if the event is to light the candle, false if it is to snuff "
            + "it");
        CandleConcert x = Concerts.two();
        x.schedule(1, 0, true);
        x.schedule(2, 0, false);
        x.pass(1);
        Check.due("lit", true, x.isLit(0));
        x.pass(1);
        Check.due("snuffed", false, x.isLit(0));
        Check.due("wax", 14, x.wax(0));
    }

    private static void scheduledPosition() {
        Check.sentence("Promise 7", "Returns the position of the event in the order of the events, counted from 0");
        CandleConcert x = Concerts.two();
        Check.due("the only one", 0, x.schedule(50, 0, true));
        Check.due("at the end", 1, x.schedule(60, 0, true));
        Check.due("in front", 0, x.schedule(40, 0, true));
        Check.due("between", 1, x.schedule(45, 0, true));
        Check.due("before the last", 3, x.schedule(59, 0, true));
        Check.due("at the end again", 5, x.schedule(61, 0, true));
        x.writeEvents();
        Check.due("order", "40l0 45l0 50l0 59l0 60l0 61l0", Answers.ofLine(x));
    }

    private static void scheduledPositionAmongEqualMinutes() {
        Check.sentence("Promise 7", "Returns the position of the event in the order of the events, counted from 0");
        CandleConcert x = Concerts.two();
        for (int i = 0; i < 7; i++) {
            Check.due("equal ones", i, x.schedule(50, i % 2, i % 3 == 0));
        }
        Check.due("in front of them", 0, x.schedule(49, 0, true));
        Check.due("behind them", 8, x.schedule(51, 0, true));
        Check.due("one more", 8, x.schedule(50, 1, true));
        Check.due("one more in front", 1, x.schedule(49, 1, true));
        x.writeEvents();
        Check.due("order", "49l0 49l1 50l0 50s1 50s0 50l1 50s0 50s1 50l0 50l1 51l0", Answers.ofLine(x));
    }

    private static void positionsFrom0() {
        String words = "counted from 0";
        for (int position = 0; position < 3; position++) {
            CandleConcert x = Concerts.ten();
            x.schedule(7, 7, true);
            x.schedule(8, 8, false);
            x.schedule(9, 9, true);
            Check.sentence("Promise 21", words);
            Check.due("position " + position, 7 + position, x.eventMinute(position));
            Check.sentence("Promise 22", words);
            Check.due("position " + position, 7 + position, x.eventCandle(position));
            Check.sentence("Promise 23", words);
            Check.due("position " + position, position != 1, x.isLighting(position));
            Check.sentence("Promise 8", words);
            x.unschedule(position);
            x.writeEvents();
            String[] left = {"8s8 9l9", "7l7 9l9", "7l7 8s8"};
            Check.due("left without position " + position, left[position], Answers.ofLine(x));
        }
    }

    private static void unschedulePositions() {
        Check.sentence("Promise 8", "Returns the number of events that are left");
        CandleConcert x = Concerts.full();
        Check.due("the last of 20", 19, x.unschedule(19));
        Check.due("the first", 18, x.unschedule(0));
        Check.due("the last", 17, x.unschedule(17));
        Check.due("a middle one", 16, x.unschedule(8));
        Check.due("minute before it", 38, x.eventMinute(7));
        Check.due("minute behind it", 40, x.eventMinute(8));
        Check.due("candle behind it", 0, x.eventCandle(8));
        Check.due("kind behind it", true, x.isLighting(8));
        for (int left = 15; left >= 0; left--) {
            Check.due("left", left, x.unschedule(left / 2));
        }
        Check.due("events", 0, x.events());
    }

    private static void unscheduleNoSuchPosition() {
        Check.sentence("Promise 8", "Throws `IndexOutOfBoundsException` if there is no such position");
        noSuchPosition("unschedule", (x, position) -> x.unschedule(position));
    }

    private static void unscheduledDoesNotHappen() {
        Check.sentence("Promise 8", "Removes a scheduled event");
        CandleConcert x = Concerts.two();
        x.schedule(1, 0, true);
        x.schedule(1, 1, true);
        x.unschedule(0);
        Check.due("only candle 1 burns", 2, x.pass(1));
        x.schedule(2, 0, false);
        x.unschedule(0);
        x.pass(1);
        Check.due("no failure", 0, x.failedEvents());
    }

    private static void passedMinutes() {
        Check.sentence("Promise 9", "`minutes`: the number of minutes, 1 to 240");
        CandleConcert x = Concerts.oneLit(999, 1);
        Check.due("1", 1, x.pass(1));
        Check.due("time", 1, x.time());
        Check.due("240", 240, x.pass(240));
        Check.due("time after both", 241, x.time());
        Check.due("239", 239, x.pass(239));
        Check.due("time after all", 480, x.time());
    }

    private static void passOutOfRange() {
        Check.sentence("Promise 9", "Throws `IllegalArgumentException` if the number is out of range");
        CandleConcert x = Concerts.oneLit(999, 1);
        for (int minutes : new int[] {0, 241, -1, 242, MIN, MAX, -240, 65536 + 5}) {
            Check.refused(minutes + " minutes", Refusals.ARGUMENT, () -> x.pass(minutes));
        }
        Check.due("time", 0, x.time());
        Check.due("wax", 999, x.wax(0));
    }

    private static void passedDecrease() {
        Check.sentence("Promise 9", "Returns the number of units by which the wax of all candles together decreases");
        CandleConcert x = Concerts.ten();
        for (int i = 0; i < 10; i++) {
            x.light(i);
        }
        Check.due("all burn", 50, x.pass(1));
        Check.due("what drips is counted too", 10, x.dish());
        Check.due("to their ends", 995, x.pass(240));
        Check.due("burnt and dripped", 1045, x.burnt() + x.dish());
        Check.due("nothing is left", 0, x.pass(240));
    }

    private static void passedDecreaseOfNothing() {
        Check.sentence("Promise 9", "Returns the number of units by which the wax of all candles together decreases");
        Check.due("without candles", 0, new CandleConcert().pass(240));
        CandleConcert x = Concerts.two();
        Check.due("none lit", 0, x.pass(240));
        x.schedule(242, 0, true);
        Check.due("lit in the second of two minutes", 6, x.pass(2));
        CandleConcert y = Concerts.oneLit(5, 9);
        Check.due("less than its consumption", 5, y.pass(2));
    }

    private static void passedAtOnceOrOneByOne() {
        Check.sentence("Promise 9", "Lets minutes pass");
        CandleConcert x = Concerts.full();
        CandleConcert y = Concerts.full();
        int sum = 0;
        for (int i = 0; i < 80; i++) {
            sum += y.pass(1);
        }
        Check.due("decrease", sum, x.pass(80));
        Check.due("all", Answers.ofState(y), Answers.ofState(x));
    }

    private static void numberOfEvents() {
        Check.sentence("Promise 20", "Returns the number of events");
        CandleConcert x = Concerts.two();
        for (int i = 0; i < 20; i++) {
            Check.due("events", i, x.events());
            x.schedule(1 + i, 0, true);
        }
        Check.due("all", 20, x.events());
        for (int i = 19; i >= 0; i--) {
            x.pass(1);
            Check.due("left", i, x.events());
        }
    }

    private static void questionsAboutNoSuchPosition() {
        String words = "Throws `IndexOutOfBoundsException` if there is no such position";
        Check.sentence("Promise 21", words);
        noSuchPosition("eventMinute", (x, position) -> x.eventMinute(position));
        Check.sentence("Promise 22", words);
        noSuchPosition("eventCandle", (x, position) -> x.eventCandle(position));
        Check.sentence("Promise 23", words);
        noSuchPosition("isLighting", (x, position) -> x.isLighting(position));
    }

    private static void noSuchPosition(String call, EventCall tried) {
        CandleConcert x = Concerts.two();
        noSuchPositionBut(0, call, x, tried);
        x.schedule(5, 0, true);
        noSuchPositionBut(1, call, x, tried);
        x.pass(5);
        noSuchPositionBut(0, call + " after it is carried out", x, tried);
        noSuchPositionBut(20, call, Concerts.full(), tried);
    }

    private static void noSuchPositionBut(int events, String call, CandleConcert x, EventCall tried) {
        for (int position : new int[] {-1, events, events + 1, 20, 21, MIN, MAX}) {
            Check.refused(call + " " + position + " of " + events, Refusals.INDEX, () -> tried.on(x, position));
        }
    }

    private interface EventCall {
        void on(CandleConcert x, int position);
    }

    private static void answersOfEvents() {
        CandleConcert x = Concerts.full();
        for (int i = 0; i < 20; i++) {
            Check.sentence("Promise 21", "Returns the minute of an event");
            Check.due("minute " + i, 30 + i, x.eventMinute(i));
            Check.sentence("Promise 22", "Returns the candle of an event");
            Check.due("candle " + i, i % 10, x.eventCandle(i));
            Check.sentence("Promise 23", "Returns true if it is to light it, false if it is to snuff it");
            Check.due("kind " + i, i % 2 == 0, x.isLighting(i));
        }
    }

    private static void numberOfFailures() {
        Check.sentence("Promise 24", "Returns the number of events that have failed so far");
        CandleConcert x = Concerts.two();
        Check.due("none", 0, x.failedEvents());
        for (int i = 0; i < 20; i++) {
            x.schedule(1, 0, i == 7);
        }
        x.pass(1);
        Check.due("all but the one that lights and the one that snuffs it", 18, x.failedEvents());
        x.schedule(2, 1, true);
        x.schedule(3, 1, false);
        x.pass(2);
        Check.due("none more", 18, x.failedEvents());
        x.schedule(4, 1, false);
        x.unschedule(0);
        x.pass(1);
        Check.due("an unscheduled one does not fail", 18, x.failedEvents());
    }

    private static void latestReason() {
        Check.sentence("Promise 25", "Returns 'l' if the candle to be lit was lit, 'w' if it had no wax, 'n' if the "
            + "candle to be snuffed was not lit");
        CandleConcert x = Concerts.oneLit(5, 5);
        x.addCandle('t', 100, 1);
        x.schedule(1, 0, true);
        x.pass(1);
        Check.due("lit", 'l', x.failureReason());
        x.schedule(2, 0, true);
        x.pass(1);
        Check.due("no wax", 'w', x.failureReason());
        x.schedule(3, 1, false);
        x.pass(1);
        Check.due("not lit", 'n', x.failureReason());
        x.schedule(4, 1, true);
        x.pass(1);
        Check.due("a success leaves it", 'n', x.failureReason());
        x.schedule(5, 1, true);
        x.schedule(5, 0, false);
        x.schedule(5, 0, true);
        x.pass(1);
        Check.due("the latest of one minute", 'w', x.failureReason());
        x.schedule(6, 0, true);
        x.schedule(6, 0, false);
        x.pass(1);
        Check.due("no wax, but to be snuffed", 'n', x.failureReason());
    }

    private static void noReason() {
        Check.sentence("Promise 25", "Throws `NoSuchElementException` if no event has failed");
        CandleConcert x = Concerts.two();
        Check.refused("without events", Refusals.NO_ELEMENT, () -> x.failureReason());
        x.schedule(1, 0, true);
        x.pass(1);
        Check.refused("after a success", Refusals.NO_ELEMENT, () -> x.failureReason());
        x.schedule(2, 0, true);
        Check.refused("before its minute", Refusals.NO_ELEMENT, () -> x.failureReason());
        x.pass(1);
        Check.due("after a failure", 'l', x.failureReason());
        x.undo();
        Check.refused("after its undo", Refusals.NO_ELEMENT, () -> x.failureReason());
    }
}
