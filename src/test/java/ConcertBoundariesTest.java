/** Each boundary that the promises 26 to 38 name: a test of its own. */
public final class ConcertBoundariesTest {
    private ConcertBoundariesTest() {
    }

    public static void main(String[] args) {
        Check.test(ConcertBoundariesTest::times);
        Check.test(ConcertBoundariesTest::draughts);
        Check.test(ConcertBoundariesTest::dishes);
        Check.test(ConcertBoundariesTest::darkNow);
        Check.test(ConcertBoundariesTest::darkAfterOneMinute);
        Check.test(ConcertBoundariesTest::darkAfterTheLastEvent);
        Check.test(ConcertBoundariesTest::darkAfterTheLastCandle);
        Check.test(ConcertBoundariesTest::darkForTheFirstTime);
        Check.test(ConcertBoundariesTest::darkAfterMeetingMinutes);
        Check.test(ConcertBoundariesTest::darkAfterTheLongest);
        Check.test(ConcertBoundariesTest::darkOfFullOnes);
        Check.test(ConcertBoundariesTest::darkByMinutesAlone);
        Check.test(ConcertBoundariesTest::darkByLeapsAlone);
        Check.test(ConcertBoundariesTest::predictionsChangeNothing);
        Check.test(ConcertBoundariesTest::lastOfSeveral);
        Check.test(ConcertBoundariesTest::lastOfOneMinute);
        Check.test(ConcertBoundariesTest::snuffedIsNotLast);
        Check.test(ConcertBoundariesTest::noLast);
        Check.test(ConcertBoundariesTest::loudest);
        Check.test(ConcertBoundariesTest::loudestOfSeveral);
        Check.test(ConcertBoundariesTest::noLoudest);
        Check.test(ConcertBoundariesTest::addedWaxOfAll);
        Check.test(ConcertBoundariesTest::addedWaxInParts);
        Check.test(ConcertBoundariesTest::burntSoFar);
        Check.test(ConcertBoundariesTest::means);
        Check.test(ConcertBoundariesTest::meanOfNone);
        Check.test(ConcertBoundariesTest::shares);
        Check.test(ConcertBoundariesTest::shareOfNone);
        Check.test(ConcertBoundariesTest::invariants);
        Check.end();
    }

    private static void times() {
        Check.sentence("Promise 26", "Returns the number of minutes that have passed");
        CandleConcert x = new CandleConcert();
        Check.due("none", 0, x.time());
        x.pass(1);
        Check.due("1", 1, x.time());
        x.pass(240);
        Check.due("241", 241, x.time());
        Check.run(x, "wait;wait 3");
        Check.due("245", 245, x.time());
        x.minutesUntilDark();
        x.setDraught(1);
        Check.due("other calls take no time", 245, x.time());
    }

    private static void draughts() {
        Check.sentence("Promise 27", "Returns the draught");
        CandleConcert x = new CandleConcert();
        Check.due("at first", 0, x.draught());
        x.setDraught(3);
        x.pass(3);
        Check.due("3", 3, x.draught());
        x.setDraught(0);
        Check.due("0", 0, x.draught());
    }

    private static void dishes() {
        Check.sentence("Promise 28", "Returns the number of units in the dish");
        CandleConcert x = new CandleConcert();
        Check.due("at first", 0, x.dish());
        for (int i = 0; i < 10; i++) {
            x.addCandle('s', 999, 5);
            x.light(i);
        }
        x.pass(200);
        Check.due("the most", 10 * 199, x.dish());
        x.pour(0, 999);
        Check.due("poured back", 991, x.dish());
    }

    private static void dark(String what, int minutes, CandleConcert x) {
        Check.due("minutesUntilDark, " + what, minutes, x.minutesUntilDark());
        Check.due("minutesUntilDarkByLeaps, " + what, minutes, x.minutesUntilDarkByLeaps());
    }

    private static void darkNow() {
        Check.sentence("Promise 29, 30", "Returns the number of minutes, 0 if it is dark now");
        dark("no candles", 0, new CandleConcert());
        dark("none lit", 0, Concerts.two());
        CandleConcert x = Concerts.oneLit(5, 5);
        x.pass(1);
        dark("gone out", 0, x);
        CandleConcert y = Concerts.oneLit(5, 5);
        y.snuff(0);
        dark("snuffed", 0, y);
        y.schedule(1, 0, false);
        y.pass(1);
        dark("after the last event", 0, y);
    }

    private static void darkAfterOneMinute() {
        Check.sentence("Promise 29, 30", "by letting minutes pass on a copy of the concert");
        dark("1 unit", 1, Concerts.oneLit(1, 1));
        dark("9 units at rate 9", 1, Concerts.oneLit(9, 9));
        dark("10 units at rate 9", 2, Concerts.oneLit(10, 9));
        CandleConcert x = Concerts.two();
        x.schedule(1, 0, false);
        dark("a failing event", 1, x);
        CandleConcert y = Concerts.oneLit(100, 1);
        y.schedule(1, 0, false);
        dark("snuffed in the next minute", 1, y);
        CandleConcert z = Concerts.two();
        z.schedule(1, 0, true);
        z.schedule(1, 0, false);
        dark("lit and snuffed in the next minute", 1, z);
    }

    private static void darkAfterTheLastEvent() {
        Check.sentence("Promise 29, 30", "each minute at which an event is carried out");
        CandleConcert x = Concerts.oneLit(20, 6);
        x.schedule(3, 0, true);
        dark("burns on after a failing event", 4, x);
        x.schedule(5, 0, true);
        dark("one that finds no wax", 5, x);
        x.schedule(999, 0, false);
        dark("one that finds it not lit", 999, x);
        x.schedule(2, 0, false);
        x.schedule(998, 0, true);
        dark("lit again for a minute of its last units", 999, x);
        x.pass(240);
        dark("seen from later", 759, x);
    }

    private static void darkAfterTheLastCandle() {
        Check.sentence("Promise 29, 30", "or a candle goes out");
        CandleConcert x = Concerts.ten();
        for (int i = 0; i < 10; i++) {
            x.light(i);
        }
        dark("ten candles", 22, x);
        x.snuff(9);
        x.snuff(8);
        x.snuff(7);
        x.snuff(6);
        dark("without the longest", 21, x);
        x.setDraught(3);
        dark("in the draught", 14, x);
        x.schedule(7, 9, true);
        dark("with one that is lit later", 6 + 14, x);
    }

    private static void darkForTheFirstTime() {
        Check.sentence("Promise 29, 30", "Returns after how many minutes the concert will be dark for the first time");
        CandleConcert x = Concerts.oneLit(20, 6);
        x.addCandle('b', 12, 2);
        x.schedule(100, 1, true);
        dark("no candle is lit between, but an event is scheduled", 105, x);
        x.schedule(103, 1, false);
        dark("and snuffed", 103, x);
        x.schedule(103, 1, true);
        dark("and lit in the same minute", 105, x);
        x.unschedule(0);
        x.pass(4);
        dark("lit by the one that is left", 104, x);
    }

    private static void darkAfterMeetingMinutes() {
        Check.sentence("Promise 29, 30", "Returns the same number, by going in one leap to each minute at which an "
            + "event is carried out or a candle goes out");
        CandleConcert x = Concerts.oneLit(12, 6);
        x.schedule(2, 0, false);
        dark("snuffed in its last minute", 2, x);
        x.schedule(3, 0, true);
        dark("and lit for it", 3, x);
        CandleConcert y = Concerts.oneLit(12, 6);
        y.schedule(2, 0, true);
        dark("to be lit in its last minute", 2, y);
        y.addCandle('a', 5, 5);
        y.schedule(2, 1, true);
        dark("another is lit and goes out with it", 2, y);
        y.addCandle('a', 6, 5);
        y.schedule(2, 2, true);
        dark("a third lasts a minute longer", 3, y);
    }

    private static void darkAfterTheLongest() {
        Check.sentence("Promise 29, 30", "Returns after how many minutes the concert will be dark for the first time "
            + "if nothing but time passes");
        CandleConcert x = new CandleConcert();
        x.addCandle('s', 999, 1);
        x.schedule(999, 0, true);
        dark("999 units lit in 999 minutes", 1997, x);
        x.pass(240);
        dark("240 minutes later", 1757, x);
        x.setDraught(3);
        dark("in the draught", 758 + 250, x);
        x.light(0);
        dark("lit now, the event fails", 759, x);
    }

    private static void darkOfFullOnes() {
        Check.sentence("Promise 29, 30", "Returns after how many minutes the concert will be dark for the first time "
            + "if nothing but time passes");
        CandleConcert x = Concerts.full();
        dark("candle 8 is lit in minute 38 and burns on", 59, x);
        for (int passed = 0; passed < 59; passed++) {
            Check.due("minutesUntilDark at " + passed, 59 - passed, x.minutesUntilDark());
            Check.due("minutesUntilDarkByLeaps at " + passed, 59 - passed, x.minutesUntilDarkByLeaps());
            x.pass(1);
        }
        dark("at last", 0, x);
    }

    /** One that is asked only the one way, since the other way might lend it an answer. */
    private static void darkByMinutesAlone() {
        Check.sentence("Promise 29", "by letting minutes pass on a copy of the concert");
        CandleConcert x = new CandleConcert();
        Check.due("without candles", 0, x.minutesUntilDark());
        x.addCandle('s', 20, 6);
        x.light(0);
        Check.due("one lit", 4, x.minutesUntilDark());
        x.schedule(9, 0, true);
        Check.due("an event", 9, x.minutesUntilDark());
        x.setDraught(3);
        x.pass(3);
        Check.due("gone out", 6, x.minutesUntilDark());
        x.unschedule(0);
        Check.due("the event is gone", 0, x.minutesUntilDark());
    }

    private static void darkByLeapsAlone() {
        Check.sentence("Promise 30", "Returns the same number, by going in one leap to each minute at which an event "
            + "is carried out or a candle goes out");
        CandleConcert x = new CandleConcert();
        Check.due("without candles", 0, x.minutesUntilDarkByLeaps());
        x.addCandle('s', 20, 6);
        x.light(0);
        Check.due("one lit", 4, x.minutesUntilDarkByLeaps());
        x.schedule(9, 0, true);
        Check.due("an event", 9, x.minutesUntilDarkByLeaps());
        x.setDraught(3);
        x.pass(3);
        Check.due("gone out", 6, x.minutesUntilDarkByLeaps());
        x.unschedule(0);
        Check.due("the event is gone", 0, x.minutesUntilDarkByLeaps());
    }

    private static void predictionsChangeNothing() {
        Check.sentence("Promise 29, 30", "on a copy of the concert");
        CandleConcert x = Concerts.lively();
        String state = Answers.ofAll(x);
        x.minutesUntilDark();
        x.minutesUntilDarkByLeaps();
        x.isConsistent();
        x.minutesLeft(1);
        x.minutesLeftByBurning(1);
        Check.due("all", state, Answers.ofAll(x));
        Check.due("the hidden", Answers.ofTheHidden(Concerts.lively()), Answers.ofTheHidden(x));
    }

    private static void lastOfSeveral() {
        Check.sentence("Promise 31", "Returns the candle that went out last");
        CandleConcert x = new CandleConcert();
        int[] wax = {4, 2, 3, 1};
        for (int i = 0; i < 4; i++) {
            x.addCandle('s', wax[i], 1);
            x.light(i);
        }
        int[] last = {3, 1, 2, 0};
        for (int candle : last) {
            x.pass(1);
            Check.due("last", candle, x.lastCandle());
        }
        x.pass(5);
        Check.due("later", 0, x.lastCandle());
    }

    private static void lastOfOneMinute() {
        Check.sentence("Promise 31", "of several that went out in the same minute, the one with the greatest number");
        CandleConcert x = new CandleConcert();
        for (int i = 0; i < 10; i++) {
            x.addCandle('s', i == 9 ? 12 : 9 - i, 9);
        }
        for (int i = 9; i >= 0; i--) {
            if (i != 4) {
                x.light(i);
            }
        }
        x.pass(1);
        Check.due("9 burns on", 8, x.lastCandle());
        x.light(4);
        x.pass(1);
        Check.due("4 and 9", 9, x.lastCandle());
    }

    private static void snuffedIsNotLast() {
        Check.sentence("Promise 31", "A candle that is snuffed does not go out");
        CandleConcert x = Concerts.two();
        x.light(0);
        x.light(1);
        x.snuff(1);
        Check.refused("snuffed by a call", Refusals.NO_ELEMENT, () -> x.lastCandle());
        x.light(1);
        x.schedule(1, 1, false);
        x.pass(1);
        Check.refused("snuffed by an event", Refusals.NO_ELEMENT, () -> x.lastCandle());
        x.pass(3);
        Check.due("went out", 0, x.lastCandle());
        x.light(1);
        x.pass(1);
        x.snuff(1);
        Check.due("snuffed later", 0, x.lastCandle());
        x.pass(1);
        Check.due("and a minute on", 0, x.lastCandle());
    }

    private static void noLast() {
        Check.sentence("Promise 31", "Throws `NoSuchElementException` if no candle went out");
        CandleConcert x = new CandleConcert();
        Check.refused("no candles", Refusals.NO_ELEMENT, () -> x.lastCandle());
        x.addCandle('s', 12, 6);
        x.pass(5);
        Check.refused("never lit", Refusals.NO_ELEMENT, () -> x.lastCandle());
        x.light(0);
        x.pass(1);
        Check.refused("still lit", Refusals.NO_ELEMENT, () -> x.lastCandle());
        x.pass(1);
        Check.due("candle 0 went out", 0, x.lastCandle());
        x.undo();
        Check.refused("undone", Refusals.NO_ELEMENT, () -> x.lastCandle());
    }

    private static void loudest() {
        Check.sentence("Promise 32", "Returns the voice of the most lit candles");
        CandleConcert x = new CandleConcert();
        for (char voice : "satbbbaatt".toCharArray()) {
            x.addCandle(voice, 100, 1);
        }
        x.light(3);
        Check.due("only b", 'b', x.loudestVoice());
        x.light(1);
        x.light(6);
        Check.due("two a, one b", 'a', x.loudestVoice());
        x.light(4);
        x.light(5);
        Check.due("three b", 'b', x.loudestVoice());
        x.snuff(3);
        x.snuff(4);
        x.light(2);
        x.light(8);
        x.light(9);
        Check.due("three t", 't', x.loudestVoice());
        x.light(0);
        x.light(7);
        x.snuff(9);
        Check.due("three a", 'a', x.loudestVoice());
    }

    private static void loudestOfSeveral() {
        Check.sentence("Promise 32", "of several, the first one of s, a, t and b");
        String[] together = {"bt", "ta", "as", "bs", "ba", "ts", "bta", "ats", "bas", "btas", "bbtt", "ttaab", "b"};
        String due = "tassasassstab";
        for (int i = 0; i < together.length; i++) {
            CandleConcert x = new CandleConcert();
            for (int candle = 0; candle < together[i].length(); candle++) {
                x.addCandle(together[i].charAt(candle), 5, 1);
                x.light(candle);
            }
            Check.due("of " + together[i], due.charAt(i), x.loudestVoice());
        }
    }

    private static void noLoudest() {
        Check.sentence("Promise 32", "Throws `NoSuchElementException` if no candle is lit");
        Check.refused("no candles", Refusals.NO_ELEMENT, () -> new CandleConcert().loudestVoice());
        CandleConcert x = Concerts.two();
        Check.refused("none lit", Refusals.NO_ELEMENT, () -> x.loudestVoice());
        x.light(1);
        Check.due("one lit", 'b', x.loudestVoice());
        x.snuff(1);
        Check.refused("snuffed", Refusals.NO_ELEMENT, () -> x.loudestVoice());
        x.light(1);
        x.pass(6);
        Check.refused("gone out", Refusals.NO_ELEMENT, () -> x.loudestVoice());
    }

    private static void addedWaxOfAll() {
        Check.sentence("Promise 33", "Returns the sum of the wax that all candles had when they were added");
        CandleConcert x = new CandleConcert();
        Check.due("none", 0L, x.addedWax());
        for (int i = 0; i < 10; i++) {
            x.addCandle('s', 999, 5);
            Check.due("sum", 999L * (i + 1), x.addedWax());
            x.light(i);
        }
        x.pass(200);
        Check.due("burnt down", 9990L, x.addedWax());
        x.pour(0, 500);
        Check.due("poured back", 9990L, x.addedWax());
    }

    private static void addedWaxInParts() {
        Check.sentence("Promise 34", "as the sum of the wax of all candles, of the wax in the dish, and of all wax "
            + "that was burnt");
        CandleConcert x = new CandleConcert();
        Check.due("none", 0L, x.addedWaxByParts());
        x.addCandle('s', 999, 9);
        Check.due("all on the candle", 999L, x.addedWaxByParts());
        x.light(0);
        x.pass(10);
        Check.due("on it, in the dish and burnt", 999L, x.addedWaxByParts());
        x.pass(101);
        Check.due("in the dish and burnt", 999L, x.addedWaxByParts());
        x.pour(0, 111);
        Check.due("on it and burnt", 999L, x.addedWaxByParts());
        x.addCandle('s', 1, 1);
        x.light(1);
        x.pass(1);
        Check.due("a second one burnt", 1000L, x.addedWaxByParts());
    }

    private static void burntSoFar() {
        Check.sentence("Promise 35", "Returns the number of units that were burnt so far");
        CandleConcert x = new CandleConcert();
        Check.due("none", 0, x.burnt());
        for (int i = 0; i < 10; i++) {
            x.addCandle('s', 999, 4);
            x.light(i);
        }
        x.pass(1);
        Check.due("4 of each", 40, x.burnt());
        x.pass(240);
        x.pass(9);
        Check.due("all of it, none drips", 9990, x.burnt());
        x.pass(1);
        Check.due("no more", 9990, x.burnt());
        CandleConcert y = Concerts.oneLit(999, 5);
        y.pass(199);
        Check.due("4 of each 5", 4 * 199, y.burnt());
        y.pass(1);
        Check.due("and the last 4", 800, y.burnt());
        y.pour(0, 199);
        Check.due("none by pouring", 800, y.burnt());
        y.light(0);
        y.pass(1);
        Check.due("what dripped burns too", 804, y.burnt());
    }

    private static void means() {
        Check.sentence("Promise 36", "the sum of the wax divided by the number of candles, both converted to double");
        CandleConcert x = new CandleConcert();
        x.addCandle('s', 1, 1);
        Check.due("of one", 1.0, x.meanWax());
        x.addCandle('s', 2, 1);
        Check.due("not rounded", 1.5, x.meanWax());
        x.addCandle('s', 999, 1);
        Check.due("a third", 1002.0 / 3.0, x.meanWax());
        x.addCandle('s', 7, 1);
        x.addCandle('s', 7, 1);
        x.addCandle('s', 7, 1);
        x.addCandle('s', 7, 1);
        Check.due("a seventh in double", 1030.0 / 7.0, x.meanWax());
        CandleConcert y = Concerts.oneLit(5, 5);
        y.pass(1);
        Check.due("no wax is left", 0.0, y.meanWax());
    }

    private static void meanOfNone() {
        Check.sentence("Promise 36", "Throws `ArithmeticException` if there are no candles");
        CandleConcert x = new CandleConcert();
        Check.refused("new", Refusals.ARITHMETIC, () -> x.meanWax());
        x.addCandle('s', 9, 1);
        Check.due("of one", 9.0, x.meanWax());
        x.undo();
        Check.refused("undone", Refusals.ARITHMETIC, () -> x.meanWax());
    }

    private static void shares() {
        Check.sentence("Promise 37", "the quotient of the number of lit candles and the number of candles, both "
            + "converted to float");
        for (int candles = 1; candles <= 10; candles++) {
            CandleConcert x = new CandleConcert();
            for (int i = 0; i < candles; i++) {
                x.addCandle('s', 5, 5);
            }
            for (int lit = 0; lit < candles; lit++) {
                Check.due(lit + " of " + candles, (float) lit / (float) candles, x.litShare());
                x.light(lit);
            }
            Check.due("all of " + candles, 1.0f, x.litShare());
            x.pass(1);
            Check.due("none of " + candles, 0.0f, x.litShare());
        }
    }

    private static void shareOfNone() {
        Check.sentence("Promise 37", "Throws `ArithmeticException` if there are no candles");
        CandleConcert x = new CandleConcert();
        Check.refused("new", Refusals.ARITHMETIC, () -> x.litShare());
        x.addCandle('s', 9, 1);
        Check.due("of one", 0.0f, x.litShare());
        x.undo();
        Check.refused("undone", Refusals.ARITHMETIC, () -> x.litShare());
    }

    private static void invariants() {
        Check.sentence("Promise 38", "Returns true if the invariants hold");
        Check.due("new", true, new CandleConcert().isConsistent());
        Check.due("lively", true, Concerts.lively().isConsistent());
        CandleConcert x = Concerts.full();
        for (int i = 0; i < 70; i++) {
            Check.due("at " + x.time(), true, x.isConsistent());
            x.setDraught(i % 4);
            x.pass(1);
        }
        x.pour(0, 1);
        Check.due("poured", true, x.isConsistent());
        x.undo();
        x.undo();
        Check.due("undone", true, x.isConsistent());
    }
}
