import java.util.NoSuchElementException;

/** For each promise of the document: ordinary inputs, the edges that it names, and wrong inputs. */
public final class PromisesTest {
    private static final Class<IllegalArgumentException> ARGUMENT = IllegalArgumentException.class;
    private static final Class<IllegalStateException> STATE = IllegalStateException.class;
    private static final Class<IndexOutOfBoundsException> INDEX = IndexOutOfBoundsException.class;
    private static final Class<UnsupportedOperationException> UNSUPPORTED = UnsupportedOperationException.class;
    private static final Class<NoSuchElementException> NO_ELEMENT = NoSuchElementException.class;
    private static final Class<ArithmeticException> ARITHMETIC = ArithmeticException.class;

    private static final int[] WRONG_CANDLES = {-1, 2, 10, Integer.MIN_VALUE, Integer.MAX_VALUE};

    private PromisesTest() {
    }

    public static void main(String[] args) {
        Check.test(PromisesTest::newObject);
        Check.test(PromisesTest::addCandle);
        Check.test(PromisesTest::light);
        Check.test(PromisesTest::snuff);
        Check.test(PromisesTest::pour);
        Check.test(PromisesTest::setDraught);
        Check.test(PromisesTest::schedule);
        Check.test(PromisesTest::unschedule);
        Check.test(PromisesTest::pass);
        Check.test(PromisesTest::passWithEvents);
        Check.test(PromisesTest::propertiesOfCandles);
        Check.test(PromisesTest::minutesLeft);
        Check.test(PromisesTest::candleByWax);
        Check.test(PromisesTest::propertiesOfEvents);
        Check.test(PromisesTest::failures);
        Check.test(PromisesTest::darkness);
        Check.test(PromisesTest::lastCandle);
        Check.test(PromisesTest::voices);
        Check.test(PromisesTest::accounts);
        Check.test(PromisesTest::consistency);
        Check.test(PromisesTest::output);
        Check.test(PromisesTest::typing);
        Check.test(PromisesTest::running);
        Check.test(PromisesTest::everyCommand);
        Check.test(PromisesTest::syntaxErrors);
        Check.test(PromisesTest::failedCommands);
        Check.test(PromisesTest::undo);
        Check.test(PromisesTest::undoOfEachChange);
        Check.test(PromisesTest::undoOfFailures);
        Check.test(PromisesTest::undoOfEverything);
        Check.test(PromisesTest::saveAndRestore);
        Check.end();
    }

    /** Candle 0 is s with 20 units at rate 6, candle 1 is b with 12 units at rate 2. */
    private static CandleConcert two() {
        CandleConcert x = new CandleConcert();
        x.addCandle('s', 20, 6);
        x.addCandle('b', 12, 2);
        return x;
    }

    // Promise 1
    private static void newObject() {
        CandleConcert x = new CandleConcert();
        Check.due("new candles", 0, x.candles());
        Check.due("new litCandles", 0, x.litCandles());
        Check.due("new events", 0, x.events());
        Check.due("new failedEvents", 0, x.failedEvents());
        Check.due("new time", 0, x.time());
        Check.due("new draught", 0, x.draught());
        Check.due("new dish", 0, x.dish());
        Check.due("new burnt", 0, x.burnt());
        Check.due("new addedWax", 0L, x.addedWax());
        Check.due("new addedWaxByParts", 0L, x.addedWaxByParts());
        Check.due("new minutesUntilDark", 0, x.minutesUntilDark());
        Check.due("new minutesUntilDarkByLeaps", 0, x.minutesUntilDarkByLeaps());
        Check.due("new isConsistent", true, x.isConsistent());
        Check.refused("new charAt", INDEX, () -> x.charAt(0));
        Check.refused("new undo", STATE, () -> x.undo());
        Check.refused("new restore", STATE, () -> x.restore());
    }

    // Promise 2
    private static void addCandle() {
        CandleConcert x = new CandleConcert();
        Check.due("first candle", 0, x.addCandle('s', 1, 1));
        Check.due("second candle", 1, x.addCandle('a', 999, 9));
        Check.due("a new candle is not lit", false, x.isLit(1));
        Check.refused("wax 0", ARGUMENT, () -> x.addCandle('s', 0, 1));
        Check.refused("wax 1000", ARGUMENT, () -> x.addCandle('s', 1000, 1));
        Check.refused("rate 0", ARGUMENT, () -> x.addCandle('s', 1, 0));
        Check.refused("rate 10", ARGUMENT, () -> x.addCandle('s', 1, 10));
        for (char voice : new char[] {'x', 'S', 'B', (char) 0, (char) 0x173, Character.MAX_VALUE}) {
            Check.refused("voice " + (int) voice, ARGUMENT, () -> x.addCandle(voice, 1, 1));
        }
        Check.due("refused candles are not added", 2, x.candles());
        Check.due("refused wax is not added", 1000L, x.addedWax());
        for (int i = 2; i < 10; i++) {
            Check.due("next candle", i, x.addCandle(i % 2 == 0 ? 't' : 'b', 5, 5));
        }
        Check.refused("eleventh candle", STATE, () -> x.addCandle('s', 1, 1));
        Check.refused("eleventh candle with a wrong number", ARGUMENT, () -> x.addCandle('s', 0, 1));
        Check.due("at most ten", 10, x.candles());
    }

    // Promise 3
    private static void light() {
        CandleConcert x = two();
        Check.due("light 1", 1, x.light(1));
        Check.due("light 0", 2, x.light(0));
        Check.refused("light a lit one", STATE, () -> x.light(0));
        for (int candle : WRONG_CANDLES) {
            Check.refused("light " + candle, INDEX, () -> x.light(candle));
        }
        x.pass(4);
        Check.refused("light one without wax", UNSUPPORTED, () -> x.light(0));
        Check.due("still one lit", 1, x.litCandles());
    }

    // Promise 4
    private static void snuff() {
        CandleConcert x = two();
        Check.refused("snuff an unlit one", STATE, () -> x.snuff(0));
        x.light(0);
        x.pass(1);
        Check.due("snuff 0", 14, x.snuff(0));
        Check.due("snuffed", false, x.isLit(0));
        Check.refused("snuff it again", STATE, () -> x.snuff(0));
        for (int candle : WRONG_CANDLES) {
            Check.refused("snuff " + candle, INDEX, () -> x.snuff(candle));
        }
        Check.refused("a snuffed candle did not go out", NO_ELEMENT, () -> x.lastCandle());
    }

    // Promise 5
    private static void pour() {
        CandleConcert x = two();
        x.light(0);
        x.pass(3);
        Check.due("dish", 3, x.dish());
        for (int candle : WRONG_CANDLES) {
            Check.refused("pour " + candle, INDEX, () -> x.pour(candle, 0));
        }
        Check.refused("0 units", ARGUMENT, () -> x.pour(0, 0));
        Check.refused("-1 units", ARGUMENT, () -> x.pour(1, -1));
        Check.refused("1000 units", ARGUMENT, () -> x.pour(1, 1000));
        Check.refused("most units", ARGUMENT, () -> x.pour(1, Integer.MAX_VALUE));
        Check.refused("onto a lit one", STATE, () -> x.pour(0, 1));
        Check.refused("too much, and more than the dish has", STATE, () -> x.pour(1, 988));
        Check.refused("more than the dish has", UNSUPPORTED, () -> x.pour(1, 987));
        Check.refused("one more than the dish has", UNSUPPORTED, () -> x.pour(1, 4));
        Check.due("pour all", 15, x.pour(1, 3));
        Check.due("dish is empty", 0, x.dish());
        Check.due("addedWax stays", 32L, x.addedWax());
        Check.due("parts stay", 32L, x.addedWaxByParts());
        pourToTheBrim();
    }

    private static void pourToTheBrim() {
        CandleConcert x = new CandleConcert();
        x.addCandle('t', 998, 1);
        x.addCandle('t', 20, 5);
        x.light(1);
        x.pass(4);
        Check.refused("above 999", STATE, () -> x.pour(0, 2));
        Check.due("to 999", 999, x.pour(0, 1));
        Check.refused("999 units are in range", UNSUPPORTED, () -> x.pour(1, 999));
        Check.due("onto one without wax", 3, x.pour(1, 3));
        Check.due("which can be lit again", 1, x.light(1));
    }

    // Promise 6, 27
    private static void setDraught() {
        CandleConcert x = two();
        Check.due("to 3", 0, x.setDraught(3));
        Check.due("draught", 3, x.draught());
        Check.refused("to 4", ARGUMENT, () -> x.setDraught(4));
        Check.refused("to -1", ARGUMENT, () -> x.setDraught(-1));
        Check.due("draught stays", 3, x.draught());
        Check.due("to 0", 3, x.setDraught(0));
        Check.due("to 0 again", 0, x.setDraught(0));
    }

    // Promise 7, 20 to 23
    private static void schedule() {
        CandleConcert x = two();
        x.pass(10);
        Check.refused("now", ARGUMENT, () -> x.schedule(10, 0, true));
        Check.refused("earliest minute", ARGUMENT, () -> x.schedule(Integer.MIN_VALUE, 0, true));
        Check.refused("minute 1010", ARGUMENT, () -> x.schedule(1010, 0, true));
        Check.refused("latest minute", ARGUMENT, () -> x.schedule(Integer.MAX_VALUE, 0, true));
        Check.refused("minute before candle", ARGUMENT, () -> x.schedule(10, 2, true));
        for (int candle : WRONG_CANDLES) {
            Check.refused("schedule " + candle, INDEX, () -> x.schedule(11, candle, true));
        }
        Check.due("first", 0, x.schedule(1009, 0, true));
        Check.due("earlier", 0, x.schedule(11, 1, false));
        Check.due("between", 1, x.schedule(500, 1, true));
        Check.due("same minute comes behind", 2, x.schedule(500, 0, true));
        Check.due("same minute as the first", 1, x.schedule(11, 0, true));
        Check.due("order", "11s1 11l0 500l1 500l0 1009l0", Check.line(x, x.writeEvents()));
        for (int i = 5; i < 20; i++) {
            Check.due("at the end", i, x.schedule(1009, i % 2, false));
        }
        Check.refused("21st", STATE, () -> x.schedule(11, 0, true));
        Check.refused("21st without candle", INDEX, () -> x.schedule(11, 2, true));
        Check.due("events", 20, x.events());
    }

    // Promise 8
    private static void unschedule() {
        CandleConcert x = two();
        Check.refused("none there", INDEX, () -> x.unschedule(0));
        x.schedule(5, 0, true);
        x.schedule(6, 1, true);
        x.schedule(7, 0, false);
        Check.refused("position 3", INDEX, () -> x.unschedule(3));
        Check.refused("position -1", INDEX, () -> x.unschedule(-1));
        Check.refused("greatest position", INDEX, () -> x.unschedule(Integer.MAX_VALUE));
        Check.due("middle", 2, x.unschedule(1));
        Check.due("left", "5l0 7s0", Check.line(x, x.writeEvents()));
        Check.due("last", 1, x.unschedule(1));
        Check.due("first", 0, x.unschedule(0));
        Check.due("events", 0, x.events());
        Check.due("no failure", 0, x.failedEvents());
    }

    // Promise 9, 26, 28, 35
    private static void pass() {
        CandleConcert x = two();
        Check.refused("0 minutes", ARGUMENT, () -> x.pass(0));
        Check.refused("-1 minutes", ARGUMENT, () -> x.pass(-1));
        Check.refused("241 minutes", ARGUMENT, () -> x.pass(241));
        Check.due("nothing burns", 0, x.pass(240));
        Check.due("time", 240, x.time());
        x.light(0);
        x.light(1);
        Check.due("both burn", 24, x.pass(3));
        Check.due("wax 0", 2, x.wax(0));
        Check.due("wax 1", 6, x.wax(1));
        Check.due("6 units drip, 2 do not", 3, x.dish());
        Check.due("burnt", 21, x.burnt());
        Check.due("a rest of 2 does not drip", 4, x.pass(1));
        Check.due("dish stays", 3, x.dish());
        Check.due("out", false, x.isLit(0));
        Check.due("time goes on", 244, x.time());
        dripping();
    }

    private static void dripping() {
        CandleConcert x = new CandleConcert();
        x.addCandle('s', 9, 4);
        x.light(0);
        x.pass(1);
        Check.due("4 do not drip", 0, x.dish());
        x.setDraught(1);
        x.pass(1);
        Check.due("5 drip, and are the rest", 1, x.dish());
        Check.due("burnt", 8, x.burnt());
        Check.due("no wax", 0, x.wax(0));
        x.addCandle('s', 5, 9);
        x.setDraught(3);
        x.light(1);
        Check.due("5 of 12", 5, x.pass(1));
        Check.due("a rest of 5 drips", 2, x.dish());
    }

    // Promise 9 with events
    private static void passWithEvents() {
        CandleConcert x = two();
        x.schedule(2, 0, true);
        x.schedule(4, 0, false);
        Check.due("before the event", 0, x.pass(1));
        Check.due("lit at its minute, it burns in it", 6, x.pass(1));
        Check.due("one event left", 1, x.events());
        Check.due("lit", true, x.isLit(0));
        Check.due("snuffed at its minute, it does not burn in it", 6, x.pass(2));
        Check.due("wax", 8, x.wax(0));
        Check.due("events", 0, x.events());
        Check.due("failed", 0, x.failedEvents());
        x.schedule(5, 1, true);
        x.schedule(5, 1, false);
        x.schedule(5, 0, true);
        Check.due("events of one minute in their order", 6, x.pass(1));
        Check.due("candle 1 was lit and snuffed", false, x.isLit(1));
        Check.due("none failed", 0, x.failedEvents());
    }

    // Promise 10 to 15
    private static void propertiesOfCandles() {
        CandleConcert x = two();
        Check.due("candles", 2, x.candles());
        Check.due("voice 0", 's', x.voice(0));
        Check.due("voice 1", 'b', x.voice(1));
        Check.due("wax 0", 20, x.wax(0));
        Check.due("consumption 0", 6, x.consumption(0));
        x.setDraught(3);
        Check.due("consumption 1", 5, x.consumption(1));
        x.light(1);
        Check.due("isLit 0", false, x.isLit(0));
        Check.due("isLit 1", true, x.isLit(1));
        Check.due("litCandles", 1, x.litCandles());
        for (int candle : WRONG_CANDLES) {
            Check.refused("voice " + candle, INDEX, () -> x.voice(candle));
            Check.refused("wax " + candle, INDEX, () -> x.wax(candle));
            Check.refused("consumption " + candle, INDEX, () -> x.consumption(candle));
            Check.refused("isLit " + candle, INDEX, () -> x.isLit(candle));
            Check.refused("minutesLeft " + candle, INDEX, () -> x.minutesLeft(candle));
            Check.refused("minutesLeftByBurning " + candle, INDEX, () -> x.minutesLeftByBurning(candle));
            Check.refused("writeCandle " + candle, INDEX, () -> x.writeCandle(candle));
        }
    }

    // Promise 17, 18
    private static void minutesLeft() {
        CandleConcert x = two();
        x.addCandle('t', 999, 1);
        int[] left = {4, 6, 999};
        for (int candle = 0; candle < 3; candle++) {
            Check.due("minutesLeft " + candle, left[candle], x.minutesLeft(candle));
            Check.due("by burning " + candle, left[candle], x.minutesLeftByBurning(candle));
        }
        x.setDraught(3);
        int[] leftInDraught = {3, 3, 250};
        for (int candle = 0; candle < 3; candle++) {
            Check.due("in draught " + candle, leftInDraught[candle], x.minutesLeft(candle));
            Check.due("in draught by burning " + candle, leftInDraught[candle], x.minutesLeftByBurning(candle));
        }
        x.light(0);
        x.pass(3);
        Check.due("without wax", 0, x.minutesLeft(0));
        Check.due("without wax by burning", 0, x.minutesLeftByBurning(0));
        Check.due("the question burns nothing", 12, x.wax(1));
    }

    // Promise 19
    private static void candleByWax() {
        CandleConcert x = new CandleConcert();
        Check.refused("no candles", NO_ELEMENT, () -> x.candleByWax(0));
        int[] wax = {5, 7, 5, 999, 7};
        for (int units : wax) {
            x.addCandle('a', units, 1);
        }
        int[] order = {3, 1, 4, 0, 2};
        for (int rank = 0; rank < 5; rank++) {
            Check.due("rank " + rank, order[rank], x.candleByWax(rank));
        }
        Check.refused("rank 5", NO_ELEMENT, () -> x.candleByWax(5));
        Check.refused("rank -1", NO_ELEMENT, () -> x.candleByWax(-1));
        Check.refused("greatest rank", NO_ELEMENT, () -> x.candleByWax(Integer.MAX_VALUE));
    }

    // Promise 20 to 23
    private static void propertiesOfEvents() {
        CandleConcert x = two();
        Check.refused("minute of none", INDEX, () -> x.eventMinute(0));
        x.schedule(9, 1, true);
        x.schedule(3, 0, false);
        Check.due("events", 2, x.events());
        Check.due("minute 0", 3, x.eventMinute(0));
        Check.due("minute 1", 9, x.eventMinute(1));
        Check.due("candle 0", 0, x.eventCandle(0));
        Check.due("candle 1", 1, x.eventCandle(1));
        Check.due("isLighting 0", false, x.isLighting(0));
        Check.due("isLighting 1", true, x.isLighting(1));
        for (int position : new int[] {-1, 2, 20, Integer.MAX_VALUE}) {
            Check.refused("eventMinute " + position, INDEX, () -> x.eventMinute(position));
            Check.refused("eventCandle " + position, INDEX, () -> x.eventCandle(position));
            Check.refused("isLighting " + position, INDEX, () -> x.isLighting(position));
        }
        x.unschedule(0);
        Check.refused("position 1 is gone", INDEX, () -> x.eventMinute(1));
    }

    // Promise 24, 25
    private static void failures() {
        CandleConcert x = two();
        Check.refused("no reason", NO_ELEMENT, () -> x.failureReason());
        x.light(0);
        x.schedule(1, 1, false);
        x.schedule(2, 0, true);
        x.schedule(4, 0, false);
        x.schedule(5, 0, true);
        x.pass(1);
        Check.due("one failed", 1, x.failedEvents());
        Check.due("it was not lit", 'n', x.failureReason());
        x.pass(1);
        Check.due("two failed", 2, x.failedEvents());
        Check.due("it was lit", 'l', x.failureReason());
        Check.due("and stays lit", true, x.isLit(0));
        x.pass(2);
        Check.due("a success is no failure", 2, x.failedEvents());
        Check.due("the reason stays", 'l', x.failureReason());
        x.light(0);
        x.schedule(6, 0, true);
        x.unschedule(0);
        x.pass(1);
        x.schedule(8, 0, true);
        x.pass(2);
        Check.due("three failed", 3, x.failedEvents());
        Check.due("it had no wax", 'w', x.failureReason());
        Check.due("and stays dark", false, x.isLit(0));
    }

    // Promise 29, 30
    private static void darkness() {
        CandleConcert x = two();
        dark("nothing lit", 0, x);
        x.light(0);
        dark("one lit", 4, x);
        x.light(1);
        dark("both lit", 6, x);
        x.schedule(3, 1, false);
        dark("one snuffed", 4, x);
        x.schedule(5, 1, true);
        dark("one lit again", 8, x);
        x.schedule(999, 0, true);
        dark("an event that fails keeps it from being dark", 999, x);
        x.pass(240);
        dark("some minutes later", 759, x);
        Check.due("the questions change nothing", 240, x.time());
        CandleConcert y = new CandleConcert();
        y.addCandle('s', 999, 1);
        y.schedule(999, 0, true);
        dark("longest", 1997, y);
        y.schedule(1, 0, true);
        dark("burnt before", 999, y);
        y.setDraught(3);
        y.schedule(10, 0, false);
        y.schedule(998, 0, false);
        dark("in pieces", 999 + 241 - 1, y);
        Check.due("no events carried out", 0, y.failedEvents());
    }

    private static void dark(String what, int minutes, CandleConcert x) {
        Check.due("minutesUntilDarkByLeaps, " + what, minutes, x.minutesUntilDarkByLeaps());
        Check.due("minutesUntilDark, " + what, minutes, x.minutesUntilDark());
        Check.due("isConsistent, " + what, true, x.isConsistent());
    }

    // Promise 31
    private static void lastCandle() {
        CandleConcert x = new CandleConcert();
        x.addCandle('s', 4, 2);
        x.addCandle('s', 2, 1);
        x.addCandle('s', 3, 1);
        x.addCandle('s', 9, 1);
        Check.refused("none went out", NO_ELEMENT, () -> x.lastCandle());
        x.light(1);
        x.light(0);
        x.pass(1);
        Check.refused("still none went out", NO_ELEMENT, () -> x.lastCandle());
        x.pass(1);
        Check.due("the greatest number", 1, x.lastCandle());
        x.light(3);
        x.light(2);
        x.pass(3);
        Check.due("the last one", 2, x.lastCandle());
        x.snuff(3);
        Check.due("a snuffed one does not count", 2, x.lastCandle());
    }

    // Promise 16, 32
    private static void voices() {
        CandleConcert x = new CandleConcert();
        Check.refused("no candle", NO_ELEMENT, () -> x.loudestVoice());
        for (char voice : "bbttaas".toCharArray()) {
            x.addCandle(voice, 100, 1);
        }
        Check.refused("none lit", NO_ELEMENT, () -> x.loudestVoice());
        x.light(0);
        Check.due("b", 'b', x.loudestVoice());
        x.light(2);
        Check.due("t before b", 't', x.loudestVoice());
        x.light(4);
        Check.due("a before t", 'a', x.loudestVoice());
        x.light(6);
        Check.due("s before a", 's', x.loudestVoice());
        x.light(3);
        Check.due("two t", 't', x.loudestVoice());
        x.light(1);
        Check.due("two t before two b", 't', x.loudestVoice());
        Check.due("sounding t", 2, x.sounding('t'));
        Check.due("sounding a", 1, x.sounding('a'));
        x.snuff(4);
        Check.due("sounding a no more", 0, x.sounding('a'));
        for (char voice : new char[] {'x', 'T', 0, ' ', Character.MAX_VALUE}) {
            Check.refused("sounding " + (int) voice, ARGUMENT, () -> x.sounding(voice));
        }
    }

    // Promise 33 to 37
    private static void accounts() {
        CandleConcert x = new CandleConcert();
        Check.refused("meanWax of none", ARITHMETIC, () -> x.meanWax());
        Check.refused("litShare of none", ARITHMETIC, () -> x.litShare());
        x.addCandle('s', 20, 6);
        x.addCandle('b', 12, 2);
        x.addCandle('t', 8, 1);
        Check.due("meanWax", 40.0 / 3.0, x.meanWax());
        Check.due("litShare 0", 0.0f, x.litShare());
        x.light(0);
        Check.due("litShare 1", 1.0f / 3.0f, x.litShare());
        x.light(1);
        x.light(2);
        Check.due("litShare 3", 1.0f, x.litShare());
        x.pass(3);
        Check.due("addedWax", 40L, x.addedWax());
        Check.due("burnt", 24, x.burnt());
        Check.due("dish", 3, x.dish());
        Check.due("addedWaxByParts", 40L, x.addedWaxByParts());
        Check.due("meanWax later", 13.0 / 3.0, x.meanWax());
        x.pour(0, x.snuff(0));
        Check.due("poured wax is not added", 40L, x.addedWax());
        Check.due("parts after pouring", 40L, x.addedWaxByParts());
    }

    // Promise 38
    private static void consistency() {
        CandleConcert x = new CandleConcert();
        for (int i = 0; i < 10; i++) {
            x.addCandle("satb".charAt(i % 4), 1 + 110 * i, 1 + i % 9);
            x.schedule(3 + 7 * i, i, true);
            x.schedule(30 + 5 * i, i, false);
        }
        for (int i = 0; i < 10; i++) {
            Check.due("of ten, rank " + i, 9 - i, x.candleByWax(i));
        }
        Check.refused("of ten, rank 10", NO_ELEMENT, () -> x.candleByWax(10));
        Check.due("of ten, none sounds", 0, x.sounding('s'));
        for (int i = 0; i < 60; i++) {
            x.setDraught(i % 4);
            x.pass(1 + i % 5);
            Check.due("isConsistent at " + x.time(), true, x.isConsistent());
        }
    }

    // Promise 39 to 41
    private static void output() {
        CandleConcert x = two();
        x.addCandle('t', 140, 6);
        Check.due("length of events", 0, x.writeEvents());
        Check.refused("empty line", INDEX, () -> x.charAt(0));
        Check.due("length of candle", 8, x.writeCandle(2));
        Check.due("unlit", "2t=140/6", Check.line(x, 8));
        x.light(2);
        Check.due("the line stays as it was written", 8, Check.line(x, 8).length());
        Check.refused("no star yet", INDEX, () -> x.charAt(8));
        Check.due("lit", "2t=140/6*", Check.line(x, x.writeCandle(2)));
        x.setDraught(3);
        x.pass(16);
        Check.due("out, and with a consumption above 9", "0s=20/9", Check.line(x, x.writeCandle(0)));
        Check.due("without wax", "2t=0/9", Check.line(x, x.writeCandle(2)));
        x.schedule(90, 1, true);
        x.schedule(17, 0, true);
        x.schedule(17, 2, false);
        Check.due("events", "17l0 17s2 90l1", Check.line(x, x.writeEvents()));
        Check.refused("behind the line", INDEX, () -> x.charAt(14));
        Check.refused("before the line", INDEX, () -> x.charAt(-1));
        Check.refused("far behind the line", INDEX, () -> x.charAt(Integer.MAX_VALUE));
        Check.refused("no such candle", INDEX, () -> x.writeCandle(3));
        Check.due("a refused call leaves the line", '1', x.charAt(13));
        x.undo();
        Check.due("undo leaves the line", '1', x.charAt(13));
        fullLine();
    }

    private static void fullLine() {
        CandleConcert x = new CandleConcert();
        x.addCandle('b', 1, 9);
        for (int i = 0; i < 5; i++) {
            x.pass(240);
        }
        StringBuilder want = new StringBuilder();
        for (int i = 0; i < 20; i++) {
            x.schedule(2199 - i, 0, i % 3 == 0);
            want.insert(0, (2199 - i) + (i % 3 == 0 ? "l0" : "s0") + (i == 0 ? "" : " "));
        }
        Check.due("20 events", want.toString(), Check.line(x, x.writeEvents()));
    }

    // Promise 42
    private static void typing() {
        CandleConcert x = new CandleConcert();
        for (int i = 1; i <= 60; i++) {
            Check.due("type", i, x.type((char) (i * 1000)));
        }
        Check.refused("61st", STATE, () -> x.type('w'));
        Check.refused("no program", ARGUMENT, () -> x.run());
        Check.due("at its start", 0, x.errorPosition());
        Check.due("empty again", 1, x.type('w'));
    }

    // Promise 43
    private static void running() {
        CandleConcert x = new CandleConcert();
        String longest = "wait;wait;wait;wait;wait;wait;wait;wait;wait;wait;wait;wait ";
        Check.refused("60 characters, and not at an end", ARGUMENT, () -> Check.run(x, longest));
        Check.due("not at an end", 60, x.errorPosition());
        Check.due("12 commands", 12, Check.run(x, longest.substring(0, 59)));
        Check.due("12 minutes", 12, x.time());
        Check.refused("60 characters with an open end", ARGUMENT, () -> Check.run(x, longest.substring(0, 59) + ";"));
        Check.due("open end", 60, x.errorPosition());
        Check.due("the buffer was emptied", 1, Check.run(x, "wait 3"));
        Check.refused("the buffer is empty", ARGUMENT, () -> x.run());
        Check.due("an empty text is begun and not ended", 0, x.errorPosition());
        Check.due("time", 15, x.time());
    }

    // Promise 43, each command
    private static void everyCommand() {
        CandleConcert x = new CandleConcert();
        Check.due("candles", 3, Check.run(x, "candle s020/6;candle b12/2;candle a999/9"));
        Check.due("first", "0s=20/6", Check.line(x, x.writeCandle(0)));
        Check.due("second", "1b=12/2", Check.line(x, x.writeCandle(1)));
        Check.due("third", "2a=999/9", Check.line(x, x.writeCandle(2)));
        Check.due("light and wait", 4, Check.run(x, "light 0;light 1;wait 2;wait"));
        Check.due("wax", 2, x.wax(0));
        Check.due("time", 3, x.time());
        Check.due("snuff and pour", 2, Check.run(x, "snuff 0;pour 0+003"));
        Check.due("wax poured", 5, x.wax(0));
        Check.due("dish", 0, x.dish());
        Check.due("draught", 1, Check.run(x, "draught 2"));
        Check.due("draught set", 2, x.draught());
        Check.due("plan", 3, Check.run(x, "plan 9 l0;plan 12 s1;plan 100 l2"));
        Check.due("planned", "9l0 12s1 100l2", Check.line(x, x.writeEvents()));
        Check.due("drop", 1, Check.run(x, "drop 01"));
        Check.due("dropped", "9l0 100l2", Check.line(x, x.writeEvents()));
        Check.due("a candle of each voice", 2, Check.run(x, "candle t1/1;candle a2/1"));
        Check.due("tenor", 't', x.voice(3));
        Check.due("alto", 'a', x.voice(4));
        Check.due("the longest wait", 1, Check.run(x, "wait 240"));
        Check.due("time later", 243, x.time());
    }

    // Promise 43, 44
    private static void syntaxErrors() {
        CandleConcert x = new CandleConcert();
        Check.refused("no text yet", NO_ELEMENT, () -> x.errorPosition());
        String[] texts = {"x", "", "wait;", "wait;;", ";", "wait ", "wait x", "waitx", "wait 1234", "wait 12 ", " wait",
            "w", "wai", "waut", "candle", "candle x", "candle s", "candle s/", "candle s1234/", "candle s12/",
            "candle s12/x", "candle s12/34", "candle s12 ", "Candle s12/3", "light", "light x", "light 12", "lught",
            "snuff 1;x", "snuf 1", "pour 1", "pour 1-", "pour 1+", "pour 1+x", "pour 1+1234", "pour 12+", "px", "p",
            "plan 5 l", "plan 5 x", "plan x", "plan 5l0", "plan 1234", "plan 5 l12", "plan 5  ", "draught",
            "draught 12", "drx", "drop", "drop 1234", "drop 123;", "dr", "d", "dx", "wait\u0177", "wait 1\u0661"};
        int[] errors = {0, 0, 5, 5, 0, 5, 5, 4, 8, 7, 0,
            1, 3, 2, 6, 7, 8, 8, 11, 11,
            11, 12, 10, 0, 5, 6, 7, 1,
            8, 4, 6, 6, 7, 7, 10, 6, 1, 1,
            8, 7, 5, 6, 8, 9, 7, 7, 9,
            2, 4, 8, 9, 2, 1, 1, 4, 6};
        Check.due("as many texts as errors", texts.length, errors.length);
        for (int i = 0; i < texts.length; i++) {
            String text = texts[i];
            Check.refused("text \"" + text + "\"", ARGUMENT, () -> Check.run(x, text));
            Check.due("error of \"" + text + "\"", errors[i], x.errorPosition());
            if (i % 100 == 20) {
                Check.run(x, "wait");
                Check.due("a program leaves the error position", errors[i], x.errorPosition());
            }
        }
        Check.due("texts that are no programs do nothing", 1, x.time());
    }

    // Promise 43, 45
    private static void failedCommands() {
        CandleConcert x = two();
        Check.refused("no command yet", NO_ELEMENT, () -> x.failedCommand());
        String[] texts = {"light 0;light 0", "wait;wait;snuff 0", "wait 0", "wait 241", "draught 1;draught 4",
            "candle s0/1", "candle s1/0", "light 2", "snuff 9", "pour 0+0", "pour 0+1", "pour 0+980", "plan 0 l0",
            "wait 5;plan 5 l0", "plan 1 l2", "drop 0", "plan 3 l0;drop 1", "light 0;wait 4;light 0",
            "wait 240;wait 240;wait 240;wait 240;wait 39;plan 999 s0"};
        int[] failed = {1, 2, 0, 0, 1, 0, 0, 0, 0, 0, 0, 0, 0, 1, 0, 0, 1, 2, 5};
        Check.due("as many texts as failures", texts.length, failed.length);
        for (int i = 0; i < texts.length; i++) {
            String text = texts[i];
            Check.refused("program " + text, UNSUPPORTED, () -> Check.run(x, text));
            Check.due("failed of " + text, failed[i], x.failedCommand());
            Check.due("time after " + text, 0, x.time());
            Check.due("lit after " + text, 0, x.litCandles());
            Check.due("draught after " + text, 0, x.draught());
            Check.due("events after " + text, 0, x.events());
            Check.due("wax after " + text, 20, x.wax(0));
        }
        Check.refused("no text, no error position", NO_ELEMENT, () -> x.errorPosition());
        Check.refused("syntax", ARGUMENT, () -> Check.run(x, "light 0;light 0;"));
        Check.due("a text that is no program leaves the failed command", 5, x.failedCommand());
        Check.due("the rest can be undone", 1, x.undo());
    }

    // Promise 46
    private static void undo() {
        CandleConcert x = new CandleConcert();
        for (int i = 0; i < 10; i++) {
            x.addCandle('s', i + 1, 1);
        }
        Check.refused("a refused call is no change", STATE, () -> x.addCandle('s', 1, 1));
        Check.refused("nor is a refused wait", ARGUMENT, () -> x.pass(0));
        for (int left = 7; left >= 4; left--) {
            Check.due("undo", left, x.undo());
        }
        Check.due("six are left", 6, x.candles());
        Check.due("the wax is taken back", 21L, x.addedWax());
        x.light(0);
        Check.due("undo the light", 4, x.undo());
        Check.due("not lit", 0, x.litCandles());
        for (int left = 3; left >= 0; left--) {
            Check.due("undo", left, x.undo());
        }
        Check.due("two are left", 2, x.candles());
        Check.refused("no ninth", STATE, () -> x.undo());
        Check.due("still two", 2, x.candles());
        x.setDraught(0);
        Check.due("a change to the same can be undone", 0, x.undo());
        for (int i = 0; i < 30; i++) {
            x.pass(1);
        }
        for (int left = 7; left >= 0; left--) {
            Check.due("undo late", left, x.undo());
        }
        Check.due("eight minutes back", 22, x.time());
    }

    // Promise 46, each change
    private static void undoOfEachChange() {
        CandleConcert x = two();
        x.light(0);
        x.pass(3);
        x.schedule(9, 1, true);
        x.setDraught(2);
        Check.due("snuff", 2, x.snuff(0));
        Check.due("pour", 3, x.pour(0, 1));
        Check.due("unschedule", 0, x.unschedule(0));
        Check.due("undo unschedule", 7, x.undo());
        Check.due("events", "9l1", Check.line(x, x.writeEvents()));
        Check.due("undo pour", 6, x.undo());
        Check.due("dish", 3, x.dish());
        Check.due("wax", 2, x.wax(0));
        Check.due("undo snuff", 5, x.undo());
        Check.due("lit", true, x.isLit(0));
        Check.due("undo setDraught", 4, x.undo());
        Check.due("draught", 0, x.draught());
        Check.due("undo schedule", 3, x.undo());
        Check.due("no events", 0, x.events());
        Check.due("undo pass", 2, x.undo());
        Check.due("time", 0, x.time());
        Check.due("undo light", 1, x.undo());
        Check.due("not lit", false, x.isLit(0));
        Check.due("undo addCandle", 0, x.undo());
        Check.due("candles", 1, x.candles());
    }

    private static void undoOfFailures() {
        CandleConcert x = two();
        x.schedule(1, 0, false);
        x.schedule(2, 0, true);
        x.schedule(3, 0, true);
        x.pass(2);
        x.pass(1);
        Check.due("it was lit", 'l', x.failureReason());
        x.undo();
        Check.due("one failure is left", 1, x.failedEvents());
        Check.due("its reason is back", 'n', x.failureReason());
    }

    // Promise 46: what is undone, and what is not
    private static void undoOfEverything() {
        CandleConcert x = two();
        x.light(0);
        x.schedule(1, 1, false);
        x.schedule(9, 1, true);
        Check.due("a run is one change", 4, Check.run(x, "draught 2;wait;wait;wait"));
        Check.due("candle 0 went out", 0, x.lastCandle());
        Check.refused("no program", ARGUMENT, () -> Check.run(x, "wait;x"));
        Check.refused("no candle 2", UNSUPPORTED, () -> Check.run(x, "wait;light 2"));
        x.writeCandle(0);
        Check.type(x, "dra");
        Check.due("undo the run", 5, x.undo());
        Check.due("draught", 0, x.draught());
        Check.due("time", 0, x.time());
        Check.due("wax", 20, x.wax(0));
        Check.due("lit", true, x.isLit(0));
        Check.due("dish", 0, x.dish());
        Check.due("burnt", 0, x.burnt());
        Check.due("events", "1s1 9l1", Check.line(x, x.writeEvents()));
        Check.due("failedEvents", 0, x.failedEvents());
        Check.refused("failureReason", NO_ELEMENT, () -> x.failureReason());
        Check.refused("lastCandle", NO_ELEMENT, () -> x.lastCandle());
        Check.due("the error position stays", 5, x.errorPosition());
        Check.due("the failed command stays", 1, x.failedCommand());
        Check.due("the buffer stays", 1, Check.run(x, "ught 3"));
        Check.due("and runs", 3, x.draught());
    }

    // Promise 47, 48
    private static void saveAndRestore() {
        CandleConcert x = two();
        Check.refused("nothing saved", STATE, () -> x.restore());
        Check.due("the rest can still be undone", 1, x.undo());
        x.addCandle('t', 7, 1);
        Check.due("save", 2, x.save());
        Check.due("save is no change", 1, x.undo());
        Check.due("candles", 1, x.candles());
        Check.due("another candle", 1, x.addCandle('a', 9, 9));
        Check.due("restore", 2, x.restore());
        Check.due("voice", 't', x.voice(1));
        Check.refused("nothing to undo", STATE, () -> x.undo());
        x.light(1);
        x.pass(9);
        Check.due("it burns", 0, x.wax(1));
        Check.due("restore again", 2, x.restore());
        Check.due("wax is back", 7, x.wax(1));
        Check.due("time is back", 0, x.time());
        Check.refused("it did not go out", NO_ELEMENT, () -> x.lastCandle());
        x.addCandle('a', 3, 3);
        Check.due("save in place", 3, x.save());
        x.pass(1);
        Check.due("restore the new one", 3, x.restore());
        Check.due("its voice", 'a', x.voice(2));
    }
}
