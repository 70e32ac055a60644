/** Each boundary that the promises 1 to 6 and 10 to 19 name: a test of its own. */
public final class CandlesBoundariesTest {
    private static final int MIN = Integer.MIN_VALUE;
    private static final int MAX = Integer.MAX_VALUE;

    private CandlesBoundariesTest() {
    }

    public static void main(String[] args) {
        Check.test(CandlesBoundariesTest::newConcert);
        Check.test(CandlesBoundariesTest::addedVoice);
        Check.test(CandlesBoundariesTest::addedWax);
        Check.test(CandlesBoundariesTest::addedRate);
        Check.test(CandlesBoundariesTest::addWrongVoiceOrNumber);
        Check.test(CandlesBoundariesTest::addAnEleventh);
        Check.test(CandlesBoundariesTest::addedNumber);
        Check.test(CandlesBoundariesTest::litAfterwards);
        Check.test(CandlesBoundariesTest::lightNoSuchCandle);
        Check.test(CandlesBoundariesTest::lightALitOne);
        Check.test(CandlesBoundariesTest::lightWithoutWax);
        Check.test(CandlesBoundariesTest::snuffed);
        Check.test(CandlesBoundariesTest::snuffNoSuchCandle);
        Check.test(CandlesBoundariesTest::snuffAnUnlitOne);
        Check.test(CandlesBoundariesTest::pouredUnits);
        Check.test(CandlesBoundariesTest::pouredWax);
        Check.test(CandlesBoundariesTest::pourOntoNoSuchCandle);
        Check.test(CandlesBoundariesTest::pourUnitsOutOfRange);
        Check.test(CandlesBoundariesTest::pourOntoALitOne);
        Check.test(CandlesBoundariesTest::pourTooMuch);
        Check.test(CandlesBoundariesTest::pourMoreThanTheDishHas);
        Check.test(CandlesBoundariesTest::setDraught);
        Check.test(CandlesBoundariesTest::previousDraught);
        Check.test(CandlesBoundariesTest::setDraughtOutOfRange);
        Check.test(CandlesBoundariesTest::numberOfCandles);
        Check.test(CandlesBoundariesTest::questionsAboutNoSuchCandle);
        Check.test(CandlesBoundariesTest::answersOfCandles);
        Check.test(CandlesBoundariesTest::numberOfLitCandles);
        Check.test(CandlesBoundariesTest::soundingOfEachVoice);
        Check.test(CandlesBoundariesTest::soundingOfNoVoice);
        Check.test(CandlesBoundariesTest::minutesUntilItGoesOut);
        Check.test(CandlesBoundariesTest::minutesLeftLitOrNot);
        Check.test(CandlesBoundariesTest::minutesLeftWithoutWax);
        Check.test(CandlesBoundariesTest::minutesLeftOfEach);
        Check.test(CandlesBoundariesTest::ranksFrom0);
        Check.test(CandlesBoundariesTest::ranks);
        Check.test(CandlesBoundariesTest::ranksOfEqualWax);
        Check.test(CandlesBoundariesTest::noSuchRank);
        Check.end();
    }

    private static void newConcert() {
        Check.sentence("Promise 1", "Creates a concert without candles, at time 0");
        CandleConcert x = new CandleConcert();
        Check.due("candles", 0, x.candles());
        Check.due("time", 0, x.time());
        Check.due("litCandles", 0, x.litCandles());
        Check.due("events", 0, x.events());
        Check.due("failedEvents", 0, x.failedEvents());
        Check.due("draught", 0, x.draught());
        Check.due("dish", 0, x.dish());
        Check.due("burnt", 0, x.burnt());
        Check.due("addedWax", 0L, x.addedWax());
        Check.due("line", "", Answers.ofLine(x));
        Check.refused("undo", Refusals.STATE, () -> x.undo());
        Check.refused("restore", Refusals.STATE, () -> x.restore());
        Check.due("type", 1, x.type('w'));
        CandleConcert y = new CandleConcert();
        y.addCandle('s', 1, 1);
        Check.due("candles, while another has one", 0, x.candles());
    }

    private static void addedVoice() {
        Check.sentence("Promise 2", "`voice`: the voice, one of the letters s, a, t and b");
        CandleConcert x = new CandleConcert();
        int added = 0;
        for (int code = 0; code <= Character.MAX_VALUE; code++) {
            char voice = (char) code;
            boolean isVoice = voice == 's' || voice == 'a' || voice == 't' || voice == 'b';
            if (isVoice || code % 256 == 's' || code % 4096 == 0 || code < 128) {
                CandleConcert y = new CandleConcert();
                Object want = isVoice ? (Object) 0 : "throws java.lang.IllegalArgumentException";
                Check.due("voice " + code, want, Check.answer(() -> y.addCandle(voice, 5, 5)));
                added += y.candles();
            }
        }
        Check.due("voices in all", 4, added);
        Check.due("candles of another object", 0, x.candles());
    }

    private static void addedWax() {
        Check.sentence("Promise 2", "`wax`: the wax, 1 to 999");
        CandleConcert x = new CandleConcert();
        for (int wax : new int[] {0, 1000, -1, 1001, MIN, MAX, 65536 + 5, -MAX}) {
            Check.refused("wax " + wax, Refusals.ARGUMENT, () -> x.addCandle('s', wax, 5));
        }
        Check.due("1", 0, x.addCandle('s', 1, 5));
        Check.due("999", 1, x.addCandle('s', 999, 5));
        Check.due("wax of 1", 1, x.wax(0));
        Check.due("wax of 999", 999, x.wax(1));
    }

    private static void addedRate() {
        Check.sentence("Promise 2", "`rate`: the rate, 1 to 9");
        CandleConcert x = new CandleConcert();
        for (int rate : new int[] {0, 10, -1, 11, MIN, MAX, 65536 + 5, -MAX}) {
            Check.refused("rate " + rate, Refusals.ARGUMENT, () -> x.addCandle('s', 5, rate));
        }
        for (int rate = 1; rate <= 9; rate++) {
            Check.due("rate " + rate, rate - 1, x.addCandle('s', 5, rate));
            Check.due("consumption at rate " + rate, rate, x.consumption(rate - 1));
        }
    }

    private static void addWrongVoiceOrNumber() {
        Check.sentence("Promise 2", "Throws `IllegalArgumentException` if there is no such voice, or a number is out "
            + "of range");
        CandleConcert x = new CandleConcert();
        Check.refused("only the voice", Refusals.ARGUMENT, () -> x.addCandle('u', 5, 5));
        Check.refused("only the wax", Refusals.ARGUMENT, () -> x.addCandle('s', 0, 5));
        Check.refused("only the rate", Refusals.ARGUMENT, () -> x.addCandle('s', 5, 0));
        Check.refused("voice and wax", Refusals.ARGUMENT, () -> x.addCandle('S', 1000, 5));
        Check.refused("wax and rate", Refusals.ARGUMENT, () -> x.addCandle('s', 1000, 10));
        Check.refused("all of them", Refusals.ARGUMENT, () -> x.addCandle((char) 0, -1, -1));
        Check.due("candles", 0, x.candles());
        Check.due("addedWax", 0L, x.addedWax());
    }

    private static void addAnEleventh() {
        Check.sentence("Promise 2", "Throws `IllegalStateException` if there are 10 candles");
        CandleConcert x = new CandleConcert();
        for (int i = 0; i < 9; i++) {
            x.addCandle('s', 5, 5);
        }
        Check.due("with 9", 9, x.addCandle('s', 5, 5));
        Check.refused("with 10", Refusals.STATE, () -> x.addCandle('s', 5, 5));
        x.light(0);
        x.pass(1);
        Check.refused("with 10, one without wax", Refusals.STATE, () -> x.addCandle('s', 5, 5));
        Check.due("candles", 10, x.candles());
        Check.due("addedWax", 50L, x.addedWax());
    }

    private static void addedNumber() {
        Check.sentence("Promise 2", "Returns the number of the candle");
        CandleConcert x = new CandleConcert();
        for (int i = 0; i < 10; i++) {
            Check.due("number", i, x.addCandle("bats".charAt(i % 4), 999 - i, 1 + i % 9));
            Check.due("voice of " + i, "bats".charAt(i % 4), x.voice(i));
            Check.due("wax of " + i, 999 - i, x.wax(i));
            Check.due("consumption of " + i, 1 + i % 9, x.consumption(i));
        }
    }

    private static void litAfterwards() {
        Check.sentence("Promise 3", "Returns the number of lit candles afterwards");
        CandleConcert x = Concerts.ten();
        for (int i = 0; i < 10; i++) {
            Check.due("lit", i + 1, x.light((7 * i + 3) % 10));
            Check.due("isLit", true, x.isLit((7 * i + 3) % 10));
        }
        x.snuff(9);
        Check.due("lit again", 10, x.light(9));
    }

    private static void lightNoSuchCandle() {
        Check.sentence("Promise 3", "Throws `IndexOutOfBoundsException` if there is no such candle");
        noSuchCandle("light", (x, candle) -> x.light(candle));
    }

    private static void lightALitOne() {
        Check.sentence("Promise 3", "Throws `IllegalStateException` if it is lit");
        CandleConcert x = Concerts.two();
        x.light(0);
        Check.refused("lit by a call", Refusals.STATE, () -> x.light(0));
        x.schedule(1, 1, true);
        x.pass(1);
        Check.refused("lit by an event", Refusals.STATE, () -> x.light(1));
        x.pass(2);
        Check.refused("in its last minutes", Refusals.STATE, () -> x.light(0));
        Check.due("lit candles", 2, x.litCandles());
        x.snuff(0);
        Check.due("snuffed, it can be lit", 2, x.light(0));
    }

    private static void lightWithoutWax() {
        Check.sentence("Promise 3", "Throws `UnsupportedOperationException` if it has no wax");
        CandleConcert x = Concerts.oneLit(12, 6);
        x.pass(2);
        Check.refused("gone out", Refusals.UNSUPPORTED, () -> x.light(0));
        Check.due("not lit", false, x.isLit(0));
        x.pour(0, 1);
        Check.due("with 1 unit", 1, x.light(0));
        x.pass(1);
        Check.refused("gone out again", Refusals.UNSUPPORTED, () -> x.light(0));
    }

    private static void snuffed() {
        Check.sentence("Promise 4", "Returns its wax");
        CandleConcert x = Concerts.oneLit(999, 1);
        Check.due("all of it", 999, x.snuff(0));
        Check.due("not lit any more", false, x.isLit(0));
        x.light(0);
        x.pass(240);
        Check.due("after 240 minutes", 759, x.snuff(0));
        CandleConcert y = Concerts.oneLit(10, 9);
        y.pass(1);
        Check.due("the last unit", 1, y.snuff(0));
    }

    private static void snuffNoSuchCandle() {
        Check.sentence("Promise 4", "Throws `IndexOutOfBoundsException` if there is no such candle");
        noSuchCandle("snuff", (x, candle) -> x.snuff(candle));
    }

    private static void snuffAnUnlitOne() {
        Check.sentence("Promise 4", "Throws `IllegalStateException` if it is not lit");
        CandleConcert x = Concerts.two();
        Check.refused("never lit", Refusals.STATE, () -> x.snuff(0));
        x.light(0);
        x.snuff(0);
        Check.refused("snuffed", Refusals.STATE, () -> x.snuff(0));
        x.light(0);
        x.pass(4);
        Check.refused("gone out", Refusals.STATE, () -> x.snuff(0));
    }

    /** The dish has 1194 units, the candles 0 to 5 have no wax, candle 6 has 999 and candle 7 has 998 units. */
    private static CandleConcert richDish() {
        CandleConcert x = new CandleConcert();
        for (int i = 0; i < 6; i++) {
            x.addCandle('s', 999, 5);
            x.light(i);
        }
        x.addCandle('a', 999, 5);
        x.addCandle('a', 998, 5);
        x.pass(200);
        return x;
    }

    private static void pouredUnits() {
        Check.sentence("Promise 5", "`units`: the number of units, 1 to 999");
        CandleConcert x = richDish();
        Check.due("dish", 6 * 199, x.dish());
        Check.due("1", 1, x.pour(0, 1));
        Check.due("999", 999, x.pour(1, 999));
        Check.due("dish afterwards", 6 * 199 - 1000, x.dish());
        Check.due("wax of both", 1000, x.wax(0) + x.wax(1));
    }

    private static void pouredWax() {
        Check.sentence("Promise 5", "Returns the wax of the candle afterwards");
        CandleConcert x = richDish();
        Check.due("onto one without wax", 7, x.pour(0, 7));
        Check.due("onto one with wax", 57, x.pour(0, 50));
        Check.due("the most", 999, x.pour(0, 942));
        Check.due("wax", 999, x.wax(0));
        Check.due("not lit by it", false, x.isLit(0));
    }

    private static void pourOntoNoSuchCandle() {
        Check.sentence("Promise 5", "Throws `IndexOutOfBoundsException` if there is no such candle");
        noSuchCandle("pour", (x, candle) -> x.pour(candle, 1));
    }

    private static void pourUnitsOutOfRange() {
        Check.sentence("Promise 5", "Throws `IllegalArgumentException` if the number of units is out of range");
        CandleConcert x = richDish();
        for (int units : new int[] {0, 1000, -1, 1001, MIN, MAX, -MAX, MAX - 998}) {
            Check.refused(units + " units", Refusals.ARGUMENT, () -> x.pour(0, units));
        }
        Check.due("dish", 6 * 199, x.dish());
        Check.due("wax", 0, x.wax(0));
    }

    private static void pourOntoALitOne() {
        Check.sentence("Promise 5", "Throws `IllegalStateException` if the candle is lit");
        CandleConcert x = richDish();
        x.pour(0, 5);
        x.light(0);
        Check.refused("lit", Refusals.STATE, () -> x.pour(0, 5));
        x.snuff(0);
        Check.due("snuffed", 10, x.pour(0, 5));
        x.light(0);
        x.pass(2);
        Check.due("gone out", 7, x.pour(0, 7));
    }

    private static void pourTooMuch() {
        Check.sentence("Promise 5", "Throws `IllegalStateException` if .. its wax would be more than 999 units");
        CandleConcert x = richDish();
        Check.refused("1000 by 1", Refusals.STATE, () -> x.pour(6, 1));
        Check.refused("1000 by 2", Refusals.STATE, () -> x.pour(7, 2));
        Check.due("999", 999, x.pour(7, 1));
        Check.refused("1998", Refusals.STATE, () -> x.pour(6, 999));
        x.pour(0, 1);
        Check.refused("1000 by 999", Refusals.STATE, () -> x.pour(0, 999));
        Check.due("999 by 998", 999, x.pour(0, 998));
        Check.due("dish", 6 * 199 - 1000, x.dish());
    }

    private static void pourMoreThanTheDishHas() {
        Check.sentence("Promise 5", "Throws `UnsupportedOperationException` if the dish contains less");
        CandleConcert x = Concerts.two();
        Check.refused("of nothing", Refusals.UNSUPPORTED, () -> x.pour(1, 1));
        x.light(0);
        x.pass(3);
        Check.due("dish", 3, x.dish());
        Check.refused("4 of 3", Refusals.UNSUPPORTED, () -> x.pour(1, 4));
        Check.refused("987 of 3", Refusals.UNSUPPORTED, () -> x.pour(1, 987));
        Check.due("3 of 3", 15, x.pour(1, 3));
        Check.refused("1 of 0", Refusals.UNSUPPORTED, () -> x.pour(1, 1));
        Check.due("dish afterwards", 0, x.dish());
    }

    private static void setDraught() {
        Check.sentence("Promise 6", "`draught`: the new draught, 0 to 3");
        CandleConcert x = new CandleConcert();
        int previous = 0;
        for (int draught : new int[] {0, 3, 3, 1, 2, 0}) {
            Check.due("previous of " + draught, previous, x.setDraught(draught));
            Check.due("draught", draught, x.draught());
            previous = draught;
        }
    }

    private static void previousDraught() {
        Check.sentence("Promise 6", "Returns the previous draught");
        CandleConcert x = new CandleConcert();
        Check.due("the first", 0, x.setDraught(3));
        Check.due("the greatest", 3, x.setDraught(0));
        Check.due("the least", 0, x.setDraught(0));
        x.setDraught(2);
        x.undo();
        Check.due("after an undo", 0, x.setDraught(1));
    }

    private static void setDraughtOutOfRange() {
        Check.sentence("Promise 6", "Throws `IllegalArgumentException` if the draught is out of range");
        CandleConcert x = new CandleConcert();
        x.setDraught(2);
        for (int draught : new int[] {-1, 4, MIN, MAX, 65536, -4}) {
            Check.refused("draught " + draught, Refusals.ARGUMENT, () -> x.setDraught(draught));
        }
        Check.due("draught afterwards", 2, x.draught());
    }

    private static void numberOfCandles() {
        Check.sentence("Promise 10", "Returns the number of candles");
        CandleConcert x = new CandleConcert();
        for (int i = 0; i < 10; i++) {
            Check.due("candles", i, x.candles());
            x.addCandle('t', 1, 9);
        }
        Check.due("candles", 10, x.candles());
        x.light(3);
        x.pass(1);
        Check.due("candles, one without wax", 10, x.candles());
    }

    private static void questionsAboutNoSuchCandle() {
        String words = "Throws `IndexOutOfBoundsException` if there is no such candle";
        Check.sentence("Promise 11", words);
        noSuchCandle("voice", (x, candle) -> x.voice(candle));
        Check.sentence("Promise 12", words);
        noSuchCandle("wax", (x, candle) -> x.wax(candle));
        Check.sentence("Promise 13", words);
        noSuchCandle("consumption", (x, candle) -> x.consumption(candle));
        Check.sentence("Promise 14", words);
        noSuchCandle("isLit", (x, candle) -> x.isLit(candle));
        Check.sentence("Promise 17", words);
        noSuchCandle("minutesLeft", (x, candle) -> x.minutesLeft(candle));
        Check.sentence("Promise 18", words);
        noSuchCandle("minutesLeftByBurning", (x, candle) -> x.minutesLeftByBurning(candle));
    }

    private static void answersOfCandles() {
        CandleConcert x = Concerts.ten();
        for (int i = 0; i < 10; i += 3) {
            x.light(i);
        }
        x.setDraught(3);
        for (int i = 0; i < 10; i++) {
            Check.sentence("Promise 11", "Returns the voice of a candle");
            Check.due("candle " + i, "satb".charAt(i % 4), x.voice(i));
            Check.sentence("Promise 12", "Returns the wax of a candle");
            Check.due("candle " + i, 100 + i, x.wax(i));
            Check.sentence("Promise 13", "Returns the consumption of a candle with the present draught");
            Check.due("candle " + i, 8, x.consumption(i));
            Check.sentence("Promise 14", "Returns true if it is lit");
            Check.due("candle " + i, i % 3 == 0, x.isLit(i));
        }
        x.pass(13);
        Check.sentence("Promise 12", "Returns the number of units");
        Check.due("gone out", 0, x.wax(0));
        Check.due("nearly gone out", 109 - 104, x.wax(9));
        Check.sentence("Promise 14", "Returns whether a candle is lit");
        Check.due("gone out", false, x.isLit(0));
        Check.due("nearly gone out", true, x.isLit(9));
        x.setDraught(0);
        Check.sentence("Promise 13", "Returns the number of units for a minute");
        Check.due("of one without wax", 5, x.consumption(0));
        Check.due("of one with less wax", 5, x.consumption(9));
    }

    private static void noSuchCandle(String call, CandleCall tried) {
        noSuchCandleBut(0, call, new CandleConcert(), tried);
        noSuchCandleBut(2, call, Concerts.two(), tried);
        noSuchCandleBut(10, call, Concerts.ten(), tried);
        CandleConcert x = Concerts.ten();
        x.undo();
        noSuchCandleBut(9, call + " after an undo", x, tried);
    }

    private static void noSuchCandleBut(int candles, String call, CandleConcert x, CandleCall tried) {
        for (int candle : new int[] {-1, candles, candles + 1, 10, 11, MIN, MAX, -10}) {
            Check.refused(call + " " + candle + " of " + candles, Refusals.INDEX, () -> tried.on(x, candle));
        }
    }

    private interface CandleCall {
        void on(CandleConcert x, int candle);
    }

    private static void numberOfLitCandles() {
        Check.sentence("Promise 15", "Returns the number of lit candles");
        CandleConcert x = Concerts.ten();
        for (int i = 0; i < 10; i++) {
            Check.due("lit", i, x.litCandles());
            x.light(i);
        }
        Check.due("all lit", 10, x.litCandles());
        x.pass(20);
        Check.due("candle 0 had 100 units", 9, x.litCandles());
        x.pass(1);
        Check.due("candles 1 to 5 had up to 105", 4, x.litCandles());
        x.pass(1);
        Check.due("all gone out", 0, x.litCandles());
    }

    private static void soundingOfEachVoice() {
        Check.sentence("Promise 16", "`voice`: the voice, one of the letters s, a, t and b");
        CandleConcert x = Concerts.ten();
        Check.due("none lit", 0, x.sounding('s'));
        for (int i = 0; i < 10; i++) {
            x.light(i);
        }
        Check.due("s", 3, x.sounding('s'));
        Check.due("a", 3, x.sounding('a'));
        Check.due("t", 2, x.sounding('t'));
        Check.due("b", 2, x.sounding('b'));
        Check.sentence("Promise 16", "Returns the number of lit candles with a voice");
        x.pass(20);
        Check.due("s, one gone out", 2, x.sounding('s'));
        Check.due("s of no candles", 0, new CandleConcert().sounding('s'));
    }

    private static void soundingOfNoVoice() {
        Check.sentence("Promise 16", "Throws `IllegalArgumentException` if there is no such voice");
        CandleConcert x = Concerts.oneLit(5, 1);
        for (char voice = 0; voice < 128; voice++) {
            if ("satb".indexOf(voice) < 0) {
                char wrong = voice;
                Check.refused("voice " + (int) wrong, Refusals.ARGUMENT, () -> x.sounding(wrong));
            }
        }
        for (char voice : new char[] {256 + 's', 65535, 32768 + 'a', 128 + 't'}) {
            Check.refused("voice " + (int) voice, Refusals.ARGUMENT, () -> x.sounding(voice));
        }
        Check.refused("no voice, no candles", Refusals.ARGUMENT, () -> new CandleConcert().sounding('x'));
    }

    private static void minutesUntilItGoesOut() {
        String words = "Returns the number of minutes until it goes out";
        int[][] waxRateDraughtMinutes = {{1, 1, 0, 1}, {1, 9, 3, 1}, {12, 9, 3, 1}, {13, 9, 3, 2}, {11, 9, 3, 1},
            {24, 9, 3, 2}, {25, 9, 3, 3}, {999, 1, 0, 999}, {999, 1, 1, 500}, {998, 1, 1, 499}, {999, 9, 3, 84},
            {996, 9, 3, 83}, {997, 9, 3, 84}, {2, 1, 0, 2}, {100, 7, 0, 15}, {98, 7, 0, 14}, {99, 7, 0, 15}};
        for (int[] row : waxRateDraughtMinutes) {
            CandleConcert x = new CandleConcert();
            x.addCandle('s', row[0], row[1]);
            x.setDraught(row[2]);
            String what = row[0] + " units at rate " + row[1] + " and draught " + row[2];
            Check.sentence("Promise 17", words);
            Check.due(what, row[3], x.minutesLeft(0));
            Check.sentence("Promise 18", words);
            Check.due(what, row[3], x.minutesLeftByBurning(0));
            Check.due("wax afterwards", row[0], x.wax(0));
        }
    }

    private static void minutesLeftLitOrNot() {
        String words = "`candle`: the candle, lit or not";
        CandleConcert x = new CandleConcert();
        x.addCandle('s', 100, 7);
        Check.sentence("Promise 17", words);
        Check.due("not lit", 15, x.minutesLeft(0));
        Check.sentence("Promise 18", words);
        Check.due("not lit", 15, x.minutesLeftByBurning(0));
        x.light(0);
        Check.sentence("Promise 17", words);
        Check.due("lit", 15, x.minutesLeft(0));
        Check.sentence("Promise 18", words);
        Check.due("lit", 15, x.minutesLeftByBurning(0));
        Check.due("after both it is lit", true, x.isLit(0));
        x.pass(14);
        Check.sentence("Promise 17", words);
        Check.due("lit for its last minute", 1, x.minutesLeft(0));
        Check.sentence("Promise 18", words);
        Check.due("lit for its last minute", 1, x.minutesLeftByBurning(0));
        x.snuff(0);
        Check.sentence("Promise 17", words);
        Check.due("snuffed before its last minute", 1, x.minutesLeft(0));
        Check.sentence("Promise 18", words);
        Check.due("snuffed before its last minute", 1, x.minutesLeftByBurning(0));
    }

    private static void minutesLeftWithoutWax() {
        for (int draught = 0; draught <= 3; draught++) {
            CandleConcert x = Concerts.oneLit(5, 5);
            x.pass(1);
            x.setDraught(draught);
            Check.sentence("Promise 17", "0 if it has no wax");
            Check.due("at draught " + draught, 0, x.minutesLeft(0));
            Check.sentence("Promise 18", "0 if it has no wax");
            Check.due("at draught " + draught, 0, x.minutesLeftByBurning(0));
        }
    }

    private static void minutesLeftOfEach() {
        CandleConcert x = Concerts.ten();
        x.schedule(1, 0, true);
        x.schedule(2, 0, false);
        for (int i = 0; i < 10; i++) {
            int minutes = i == 0 ? 20 : i <= 5 ? 21 : 22;
            Check.sentence("Promise 17", "Returns for how many minutes a candle would burn if it was lit now and "
                + "never snuffed, by a division");
            Check.due("candle " + i, minutes, x.minutesLeft(i));
            Check.sentence("Promise 18", "Returns the same number, by letting the candle burn minute by minute");
            Check.due("candle " + i, minutes, x.minutesLeftByBurning(i));
        }
    }

    private static void ranksFrom0() {
        Check.sentence("Promise 19", "`rank`: the rank, counted from 0");
        CandleConcert x = new CandleConcert();
        x.addCandle('s', 4, 1);
        Check.due("rank 0 of one", 0, x.candleByWax(0));
        Check.refused("rank 1 of one", Refusals.NO_ELEMENT, () -> x.candleByWax(1));
        x.addCandle('s', 5, 1);
        Check.due("rank 0 of two", 1, x.candleByWax(0));
        Check.due("rank 1 of two", 0, x.candleByWax(1));
    }

    private static void ranks() {
        Check.sentence("Promise 19", "sorted by their wax in descending order");
        CandleConcert x = new CandleConcert();
        int[] wax = {5, 999, 1, 998, 2, 500, 4, 501, 3, 6};
        for (int units : wax) {
            x.addCandle('s', units, 1);
        }
        int[] order = {1, 3, 7, 5, 9, 0, 6, 8, 4, 2};
        for (int rank = 0; rank < 10; rank++) {
            Check.due("rank " + rank, order[rank], x.candleByWax(rank));
        }
        x.light(1);
        x.pass(2);
        Check.due("first after 2 minutes", 3, x.candleByWax(0));
        Check.due("second after 2 minutes", 1, x.candleByWax(1));
    }

    private static void ranksOfEqualWax() {
        Check.sentence("Promise 19", "then by their numbers in ascending order");
        CandleConcert x = new CandleConcert();
        for (int i = 0; i < 10; i++) {
            x.addCandle('s', 7, 1 + i % 9);
        }
        for (int rank = 0; rank < 10; rank++) {
            Check.due("all equal, rank " + rank, rank, x.candleByWax(rank));
        }
        x.light(4);
        x.light(0);
        x.light(9);
        x.pass(20);
        int[] order = {1, 2, 3, 5, 6, 7, 8, 0, 4, 9};
        for (int rank = 0; rank < 10; rank++) {
            Check.due("three without wax, rank " + rank, order[rank], x.candleByWax(rank));
        }
    }

    private static void noSuchRank() {
        Check.sentence("Promise 19", "Throws `NoSuchElementException` if there is no such rank");
        for (int candles : new int[] {0, 2, 10}) {
            CandleConcert x = candles == 0 ? new CandleConcert() : candles == 2 ? Concerts.two() : Concerts.ten();
            for (int rank : new int[] {-1, candles, candles + 1, 11, MIN, MAX}) {
                Check.refused("rank " + rank + " of " + candles, Refusals.NO_ELEMENT, () -> x.candleByWax(rank));
            }
        }
        Check.due("the last rank of two", 1, Concerts.two().candleByWax(1));
    }
}
