/** Each boundary that the promises 39 to 45 and the grammar of programs name: a test of its own. */
public final class TextsBoundariesTest {
    private static final int MIN = Integer.MIN_VALUE;
    private static final int MAX = Integer.MAX_VALUE;

    private TextsBoundariesTest() {
    }

    public static void main(String[] args) {
        Check.test(TextsBoundariesTest::writtenCandle);
        Check.test(TextsBoundariesTest::writtenCandleReplaces);
        Check.test(TextsBoundariesTest::writtenLength);
        Check.test(TextsBoundariesTest::writeNoSuchCandle);
        Check.test(TextsBoundariesTest::writtenEvents);
        Check.test(TextsBoundariesTest::writtenEventsReplace);
        Check.test(TextsBoundariesTest::noEventsWritten);
        Check.test(TextsBoundariesTest::mostEventsWritten);
        Check.test(TextsBoundariesTest::emptyLine);
        Check.test(TextsBoundariesTest::indexFrom0);
        Check.test(TextsBoundariesTest::indexOutOfTheLine);
        Check.test(TextsBoundariesTest::lineStays);
        Check.test(TextsBoundariesTest::typedCount);
        Check.test(TextsBoundariesTest::typedTooMuch);
        Check.test(TextsBoundariesTest::typedAnything);
        Check.test(TextsBoundariesTest::repeatedCommands);
        Check.test(TextsBoundariesTest::optionalNumber);
        Check.test(TextsBoundariesTest::digitsOfNumbers);
        Check.test(TextsBoundariesTest::singleDigits);
        Check.test(TextsBoundariesTest::alternatives);
        Check.test(TextsBoundariesTest::voices);
        Check.test(TextsBoundariesTest::correspondingCalls);
        Check.test(TextsBoundariesTest::waitOfOneMinute);
        Check.test(TextsBoundariesTest::firstWrongCharacter);
        Check.test(TextsBoundariesTest::properPrefix);
        Check.test(TextsBoundariesTest::runAllOrNone);
        Check.test(TextsBoundariesTest::emptyAfterwards);
        Check.test(TextsBoundariesTest::numberOfCommands);
        Check.test(TextsBoundariesTest::runNoProgram);
        Check.test(TextsBoundariesTest::runFailingCandle);
        Check.test(TextsBoundariesTest::runFailingLightAndSnuff);
        Check.test(TextsBoundariesTest::runFailingPour);
        Check.test(TextsBoundariesTest::runFailingDraughtAndWait);
        Check.test(TextsBoundariesTest::runFailingPlanAndDrop);
        Check.test(TextsBoundariesTest::latestErrorPosition);
        Check.test(TextsBoundariesTest::noErrorPosition);
        Check.test(TextsBoundariesTest::latestFailedCommand);
        Check.test(TextsBoundariesTest::noFailedCommand);
        Check.end();
    }

    private static String written(CandleConcert x, int length) {
        String line = Answers.ofLine(x);
        Check.due("length of " + line, line.length(), length);
        return line;
    }

    private static void writtenCandle() {
        Check.sentence("Promise 39", "its number, its voice, \"=\", its wax, \"/\", its consumption, and \"*\" if it "
            + "is lit; for example \"2t=140/6*\"");
        CandleConcert x = new CandleConcert();
        x.addCandle('s', 1, 1);
        x.addCandle('a', 999, 9);
        x.addCandle('t', 140, 6);
        for (int i = 3; i < 10; i++) {
            x.addCandle('b', 10, 1);
        }
        Check.due("not lit", "2t=140/6", written(x, x.writeCandle(2)));
        x.light(2);
        Check.due("lit", "2t=140/6*", written(x, x.writeCandle(2)));
        Check.due("shortest numbers", "0s=1/1", written(x, x.writeCandle(0)));
        x.setDraught(3);
        Check.due("longest numbers", "1a=999/12", written(x, x.writeCandle(1)));
        x.light(1);
        Check.due("longest numbers, lit", "1a=999/12*", written(x, x.writeCandle(1)));
        Check.due("the last of ten", "9b=10/4", written(x, x.writeCandle(9)));
        x.light(0);
        x.pass(1);
        Check.due("without wax", "0s=0/4", written(x, x.writeCandle(0)));
    }

    private static void writtenCandleReplaces() {
        Check.sentence("Promise 39", "Writes a candle to the output line, which replaces its old content");
        CandleConcert x = new CandleConcert();
        x.addCandle('a', 999, 9);
        x.addCandle('b', 1, 1);
        x.light(0);
        x.schedule(100, 0, true);
        x.schedule(101, 0, true);
        x.writeEvents();
        Check.due("for events", "0a=999/9*", written(x, x.writeCandle(0)));
        Check.due("for a longer one", "1b=1/1", written(x, x.writeCandle(1)));
        Check.refused("behind the shorter one", Refusals.INDEX, () -> x.charAt(6));
        Check.due("for the same", "1b=1/1", written(x, x.writeCandle(1)));
        Check.due("for a shorter one", "0a=999/9*", written(x, x.writeCandle(0)));
    }

    private static void writtenLength() {
        Check.sentence("Promise 39", "Returns the length of the line");
        CandleConcert x = new CandleConcert();
        x.addCandle('s', 9, 9);
        x.addCandle('a', 10, 9);
        x.addCandle('t', 100, 9);
        Check.due("shortest", 6, x.writeCandle(0));
        Check.due("two digits of wax", 7, x.writeCandle(1));
        Check.due("three digits of wax", 8, x.writeCandle(2));
        x.setDraught(1);
        Check.due("two digits of consumption", 9, x.writeCandle(2));
        x.light(2);
        Check.due("longest", 10, x.writeCandle(2));
    }

    private static void writeNoSuchCandle() {
        Check.sentence("Promise 39", "Throws `IndexOutOfBoundsException` if there is no such candle");
        CandleConcert empty = new CandleConcert();
        Check.refused("0 of none", Refusals.INDEX, () -> empty.writeCandle(0));
        Check.due("line of none", "", Answers.ofLine(empty));
        CandleConcert ten = Concerts.ten();
        ten.writeCandle(9);
        for (int candle : new int[] {-1, 10, 11, MIN, MAX}) {
            Check.refused(candle + " of ten", Refusals.INDEX, () -> ten.writeCandle(candle));
        }
        Check.due("line", "9a=109/5", Answers.ofLine(ten));
        CandleConcert two = Concerts.two();
        for (int candle : new int[] {-1, 2, 3, 9}) {
            Check.refused(candle + " of two", Refusals.INDEX, () -> two.writeCandle(candle));
        }
    }

    private static void writtenEvents() {
        Check.sentence("Promise 40", "for each event, in their order, the minute, \"l\" or \"s\", and the candle, "
            + "with a blank between two; for example \"5l0 5s2 90l1\"");
        CandleConcert x = Concerts.two();
        x.addCandle('t', 5, 5);
        x.schedule(90, 1, true);
        Check.due("one", "90l1", written(x, x.writeEvents()));
        x.schedule(5, 0, true);
        Check.due("two", "5l0 90l1", written(x, x.writeEvents()));
        x.schedule(5, 2, false);
        Check.due("three", "5l0 5s2 90l1", written(x, x.writeEvents()));
        x.pass(5);
        Check.due("two have happened", "90l1", written(x, x.writeEvents()));
    }

    private static void writtenEventsReplace() {
        Check.sentence("Promise 40", "Writes the events to the output line, which replaces its old content");
        CandleConcert x = Concerts.ten();
        x.writeCandle(9);
        x.schedule(7, 9, false);
        Check.due("for a candle", "7s9", written(x, x.writeEvents()));
        Check.refused("behind it", Refusals.INDEX, () -> x.charAt(3));
        Check.due("for the same", "7s9", written(x, x.writeEvents()));
        x.schedule(999, 8, true);
        Check.due("for a shorter one", "7s9 999l8", written(x, x.writeEvents()));
        x.unschedule(1);
        Check.due("for a longer one", "7s9", written(x, x.writeEvents()));
    }

    private static void noEventsWritten() {
        Check.sentence("Promise 40", "The line is empty if no event is scheduled");
        CandleConcert x = Concerts.two();
        Check.due("new", "", written(x, x.writeEvents()));
        x.writeCandle(0);
        Check.due("after a candle", "", written(x, x.writeEvents()));
        Check.refused("its first character", Refusals.INDEX, () -> x.charAt(0));
        x.schedule(1, 0, true);
        x.writeEvents();
        x.pass(1);
        Check.due("after the last event", "", written(x, x.writeEvents()));
    }

    private static void mostEventsWritten() {
        Check.sentence("Promise 40", "Returns the length of the line");
        CandleConcert x = Concerts.ten();
        for (int i = 0; i < 42; i++) {
            x.pass(240);
        }
        StringBuilder want = new StringBuilder();
        for (int i = 0; i < 20; i++) {
            int minute = 42 * 240 + 1 + i * 50;
            x.schedule(minute, i % 10, i % 3 == 0);
            want.append(i == 0 ? "" : " ").append(minute).append(i % 3 == 0 ? 'l' : 's').append(i % 10);
        }
        Check.due("20 events", want.toString(), written(x, x.writeEvents()));
    }

    private static void emptyLine() {
        Check.sentence("Promise 41", "Returns a character of the output line, which is initially empty");
        CandleConcert x = Concerts.two();
        for (int index : new int[] {0, 1, -1, MIN, MAX}) {
            Check.refused("index " + index, Refusals.INDEX, () -> x.charAt(index));
        }
        x.writeCandle(0);
        Check.due("its first", '0', x.charAt(0));
        Check.due("its last", '6', x.charAt(6));
    }

    private static void indexFrom0() {
        Check.sentence("Promise 41", "`index`: the index, counted from 0");
        CandleConcert x = Concerts.two();
        x.schedule(12, 1, true);
        x.writeEvents();
        String line = "12l1";
        for (int i = 0; i < 4; i++) {
            Check.due("index " + i, line.charAt(i), x.charAt(i));
        }
        Check.refused("index 4", Refusals.INDEX, () -> x.charAt(4));
    }

    private static void indexOutOfTheLine() {
        Check.sentence("Promise 41", "Throws `IndexOutOfBoundsException` if the index is negative or not less than "
            + "the length");
        CandleConcert x = Concerts.full();
        int length = x.writeEvents();
        Check.due("length", 20 * 5 - 1, length);
        for (int index : new int[] {-1, length, length + 1, 120, 1000, MIN, MAX}) {
            Check.refused("index " + index, Refusals.INDEX, () -> x.charAt(index));
        }
        Check.due("last", '9', x.charAt(length - 1));
        Check.due("first", '3', x.charAt(0));
    }

    private static void lineStays() {
        Check.sentence("Promise 41", "Returns a character of the output line");
        CandleConcert x = Concerts.two();
        x.writeCandle(0);
        x.light(0);
        x.pass(1);
        x.setDraught(3);
        x.schedule(5, 1, true);
        Check.answer(() -> Check.run(x, "wait;light 9"));
        Check.due("as it was written", "0s=20/6", Answers.ofLine(x));
    }

    private static void typedCount() {
        Check.sentence("Promise 42", "Returns the number of characters in the buffer afterwards");
        CandleConcert x = new CandleConcert();
        for (int i = 1; i <= 60; i++) {
            Check.due("typed", i, x.type('w'));
        }
        Check.answer(x::run);
        Check.due("typed after a run", 1, x.type('w'));
        x.pass(1);
        x.undo();
        x.writeEvents();
        Check.due("typed after other calls", 2, x.type('a'));
    }

    private static void typedTooMuch() {
        Check.sentence("Promise 42", "Throws `IllegalStateException` if the buffer contains 60 characters");
        CandleConcert x = new CandleConcert();
        Check.type(x, "wait;".repeat(11) + "wait");
        Check.due("the 60th", 60, x.type('x'));
        Check.refused("the 61st", Refusals.STATE, () -> x.type('x'));
        Check.refused("the 62nd", Refusals.STATE, () -> x.type(';'));
        Check.refused("run", Refusals.ARGUMENT, () -> x.run());
        Check.due("the 60th was wrong", 59, x.errorPosition());
        Check.type(x, "wait;".repeat(11) + "wait");
        Check.due("59 characters run", 12, x.run());
        Check.type(x, "draught 1;draught 2;draught 3;wait 002;wait 003;wait;wait 01");
        Check.refused("one more", Refusals.STATE, () -> x.type('2'));
        Check.due("60 characters run", 7, x.run());
        Check.due("time", 12 + 2 + 3 + 1 + 1, x.time());
    }

    private static void typedAnything() {
        Check.sentence("Promise 42", "`character`: any character");
        char[] characters = {0, 1, 10, 127, 128, 255, 256, 256 + 'w', 256 + '1', 128 + '1', 0x0661, 0xff11,
            0xd800, 0xdc00, 0xffff};
        for (char character : characters) {
            CandleConcert x = new CandleConcert();
            Check.due("typed " + (int) character, 1, x.type(character));
            Check.refused("run of " + (int) character, Refusals.ARGUMENT, () -> x.run());
            Check.due("error position", 0, x.errorPosition());
            Check.type(x, "wait 1");
            x.type(character);
            Check.refused("run of wait 1 and " + (int) character, Refusals.ARGUMENT, () -> x.run());
            Check.due("error position behind it", 6, x.errorPosition());
            Check.due("time", 0, x.time());
        }
    }

    private static void repeatedCommands() {
        Check.sentence("Terms", "program = command { \";\" command .. braces mean zero or more repetitions");
        CandleConcert x = new CandleConcert();
        Check.due("no repetition", 1, Check.run(x, "wait"));
        Check.due("one repetition", 2, Check.run(x, "wait;wait"));
        Check.due("eleven", 12, Check.run(x, "wait;".repeat(11) + "wait"));
        wrong(x, "", 0);
        wrong(x, ";", 0);
        wrong(x, ";wait", 0);
        wrong(x, "wait;", 5);
        wrong(x, "wait;;wait", 5);
        wrong(x, "wait; wait", 5);
        wrong(x, "wait ;wait", 5);
        wrong(x, "wait,wait", 4);
        wrong(x, "waitwait", 4);
        Check.due("time", 15, x.time());
    }

    private static void wrong(CandleConcert x, String text, int position) {
        Check.refused("text \"" + text + "\"", Refusals.ARGUMENT, () -> Check.run(x, text));
        Check.due("error position of \"" + text + "\"", position, Check.answer(x::errorPosition));
    }

    private static void optionalNumber() {
        Check.sentence("Terms", "brackets mean an optional part .. \"wait\" [ \" \" number ]");
        CandleConcert x = new CandleConcert();
        Check.due("without", 1, Check.run(x, "wait"));
        Check.due("with one digit", 1, Check.run(x, "wait 2"));
        Check.due("with two", 1, Check.run(x, "wait 10"));
        Check.due("with three", 1, Check.run(x, "wait 100"));
        Check.due("both", 2, Check.run(x, "wait;wait 1"));
        Check.due("both the other way", 2, Check.run(x, "wait 1;wait"));
        wrong(x, "wait ", 5);
        wrong(x, "wait  1", 5);
        wrong(x, "wait1", 4);
        wrong(x, "wait ;wait", 5);
        Check.due("time", 1 + 2 + 10 + 100 + 2 + 2, x.time());
    }

    private static void digitsOfNumbers() {
        Check.sentence("Terms", "number = digit [ digit [ digit ] ]");
        CandleConcert x = new CandleConcert();
        Check.due("1 to 3 digits of wax", 3, Check.run(x, "candle s7/5;candle s70/5;candle s700/5"));
        Check.due("wax", "7 70 700", x.wax(0) + " " + x.wax(1) + " " + x.wax(2));
        Check.due("leading zeros", 2, Check.run(x, "candle s07/5;candle s009/5"));
        Check.due("wax behind zeros", "7 9", x.wax(3) + " " + x.wax(4));
        Check.due("1 to 3 digits of minutes", 3, Check.run(x, "plan 9 l0;plan 98 s1;plan 987 l2"));
        x.writeEvents();
        Check.due("planned", "9l0 98s1 987l2", Answers.ofLine(x));
        Check.due("1 to 3 digits of positions", 3, Check.run(x, "drop 002;drop 01;drop 0"));
        wrong(x, "candle s/5", 8);
        wrong(x, "candle s1234/5", 11);
        wrong(x, "candle s0001/5", 11);
        wrong(x, "pour 0+", 7);
        wrong(x, "pour 0+1234", 10);
        wrong(x, "plan  l0", 5);
        wrong(x, "plan 1234 l0", 8);
        wrong(x, "drop ", 5);
        wrong(x, "drop 1234", 8);
        wrong(x, "wait 1234", 8);
        wrong(x, "wait 0001", 8);
        wrong(x, "wait -1", 5);
        wrong(x, "wait +1", 5);
        wrong(x, "wait 1/", 6);
        wrong(x, "wait 1:", 6);
    }

    private static void singleDigits() {
        Check.sentence("Terms", "\"light \" digit | \"snuff \" digit | \"pour \" digit \"+\" number | \"draught \" "
            + "digit");
        CandleConcert x = Concerts.ten();
        Check.due("least and greatest", 4, Check.run(x, "light 0;light 9;snuff 9;draught 3"));
        wrong(x, "light 01", 7);
        wrong(x, "light 10", 7);
        wrong(x, "snuff 00", 7);
        wrong(x, "pour 01+1", 6);
        wrong(x, "draught 01", 9);
        wrong(x, "candle s1/01", 11);
        wrong(x, "plan 1 l01", 9);
        wrong(x, "light /", 6);
        wrong(x, "light :", 6);
        wrong(x, "light -1", 6);
        wrong(x, "pour :+1", 5);
        wrong(x, "candle s1/:", 10);
        wrong(x, "plan 1 s/", 8);
    }

    private static void alternatives() {
        Check.sentence("Terms", "a vertical bar separates alternatives");
        CandleConcert x = Concerts.two();
        x.light(0);
        x.pass(1);
        Check.due("light, draught, wait", 3, Check.run(x, "light 1;draught 1;wait"));
        Check.due("snuff, pour", 2, Check.run(x, "snuff 1;pour 1+2"));
        Check.due("candle", 1, Check.run(x, "candle t5/5"));
        Check.due("plan to light and to snuff, drop", 4, Check.run(x, "plan 5 l1;plan 6 s1;plan 7 l2;drop 2"));
        x.writeEvents();
        Check.due("planned", "5l1 6s1", Answers.ofLine(x));
        Check.due("wax poured", 12 - 3 + 2, x.wax(1));
        String[] others = {"Light 0", "lit 0", "snub 0", "put 0+1", "play 1 l0", "drip 0", "drift", "wake", "can", "x",
            "plan 1 x0", "plan 1 L0", "pour 0-1", "candle s1 1", "undo", "save", "daught 1", "dop 0", "pan 1 l0",
            "pur 0+1", "draop 0", "drught 1", "ight 0", "light0", "light  0"};
        int[] positions = {0, 2, 3, 1, 3, 2, 2, 2, 3, 0,
            7, 7, 6, 9, 0, 1, 1, 1, 1,
            1, 3, 2, 0, 5, 6};
        for (int i = 0; i < others.length; i++) {
            wrong(x, others[i], positions[i]);
        }
    }

    private static void voices() {
        Check.sentence("Terms", "where a voice is one of the letters s, a, t and b");
        CandleConcert x = new CandleConcert();
        Check.due("s, a, t", 3, Check.run(x, "candle s1/1;candle a1/1;candle t1/1"));
        Check.due("b", 1, Check.run(x, "candle b1/1"));
        Check.due("voices", "satb", "" + x.voice(0) + x.voice(1) + x.voice(2) + x.voice(3));
        for (char voice = 0; voice < 200; voice++) {
            if ("satb".indexOf(voice) < 0) {
                wrong(new CandleConcert(), "candle " + voice + "1/1", 7);
            }
        }
    }

    private static void correspondingCalls() {
        Check.sentence("Terms", "The commands correspond to addCandle(voice, wax, rate), light(candle), "
            + "snuff(candle), pour(candle, units), setDraught(draught), schedule(minute, candle, isLighting)");
        CandleConcert x = new CandleConcert();
        Check.run(x, "candle s20/6;candle b999/9;candle t12/2");
        Check.run(x, "light 0;light 1;plan 3 s1;plan 2 l2;plan 2 s2;wait 4");
        Check.run(x, "draught 2;pour 0+4;plan 999 l0;plan 9 s0;drop 1");
        CandleConcert y = new CandleConcert();
        y.addCandle('s', 20, 6);
        y.addCandle('b', 999, 9);
        y.addCandle('t', 12, 2);
        y.light(0);
        y.light(1);
        y.schedule(3, 1, false);
        y.schedule(2, 2, true);
        y.schedule(2, 2, false);
        y.pass(4);
        y.setDraught(2);
        y.pour(0, 4);
        y.schedule(999, 0, true);
        y.schedule(9, 0, false);
        y.unschedule(1);
        Check.due("state", Answers.ofState(y), Answers.ofState(x));
    }

    private static void waitOfOneMinute() {
        Check.sentence("Terms", "where \"wait\" without a number means one minute");
        CandleConcert x = Concerts.oneLit(20, 1);
        Check.run(x, "wait");
        Check.due("time", 1, x.time());
        Check.due("wax", 19, x.wax(0));
        Check.run(x, "wait 9;wait");
        Check.due("time after a longer one", 11, x.time());
        Check.run(x, "draught 3;wait");
        Check.due("time after another number", 12, x.time());
    }

    private static void firstWrongCharacter() {
        Check.sentence("Terms", "The error position of a text that is not a program is the index of the first "
            + "character at which no program can continue");
        CandleConcert x = new CandleConcert();
        wrong(x, "x", 0);
        wrong(x, "wait;x;y", 5);
        wrong(x, "waitx", 4);
        wrong(x, "wait 1x", 6);
        wrong(x, "wait 12x", 7);
        wrong(x, "wait 123x", 8);
        wrong(x, "wait 123 ", 8);
        wrong(x, "wait 1 2", 6);
        wrong(x, "light 0 ", 7);
        wrong(x, "plan 1l0", 6);
        wrong(x, "plan 123;", 8);
        wrong(x, "plan 1 l;", 8);
        wrong(x, "drop;", 4);
        wrong(x, "drxp", 2);
        wrong(x, "pxur", 1);
        wrong(x, "candle 1/1", 7);
        wrong(x, "candle st1/1", 8);
        wrong(x, "light 0;".repeat(7) + "ligx", 59);
        wrong(x, "wait;".repeat(11) + "waitx", 59);
        Check.due("nothing was carried out", 0, x.time());
    }

    private static void properPrefix() {
        Check.sentence("Terms", "or the length of the text if the text is a proper prefix of a program");
        String[] programs = {"candle s123/4", "light 5", "snuff 5", "pour 1+234", "draught 1", "plan 123 l4",
            "plan 1 s2", "drop 123", "wait 123", "wait", "light 1;snuff 2;wait"};
        for (String program : programs) {
            for (int length = 0; length < program.length(); length++) {
                String text = program.substring(0, length);
                if (!isWhole(text)) {
                    wrong(new CandleConcert(), text, length);
                    wrong(new CandleConcert(), "wait;" + text, 5 + length);
                }
            }
        }
        wrong(new CandleConcert(), "wait;".repeat(12), 60);
        wrong(new CandleConcert(), "wait;".repeat(11) + "wait ", 60);
    }

    private static boolean isWhole(String text) {
        return text.matches("(.*;)?(wait( \\d+)?|drop \\d+|pour 1\\+\\d+|light \\d|snuff \\d)");
    }

    private static void runAllOrNone() {
        Check.sentence("Promise 43", "executes the commands in order, either all of them or, if one of them fails, "
            + "none");
        CandleConcert x = Concerts.lively();
        Check.answer(x::run);
        String state = Answers.ofState(x);
        String[] texts = {"light 9;candle s1/1;draught 0;plan 99 l0", "candle s1/1;draught 0;plan 99 l0;light 9",
            "light 2;snuff 1;pour 0+3;light 9;draught 0", "drop 0;wait 60;plan 70 l2;wait 240;light 9"};
        for (String text : texts) {
            Check.refused(text, Refusals.UNSUPPORTED, () -> Check.run(x, text));
            Check.due("state after " + text, state, Answers.ofState(x));
        }
        Check.due("all of them", 4, Check.run(x, "light 2;snuff 1;pour 0+3;draught 0"));
        Check.due("lit, wax, dish, draught", "true false 3 0 0", x.isLit(2) + " " + x.isLit(1) + " " + x.wax(0) + " "
            + x.dish() + " " + x.draught());
    }

    private static void emptyAfterwards() {
        Check.sentence("Promise 43", "The buffer is empty afterwards in every case");
        CandleConcert x = new CandleConcert();
        Check.run(x, "wait");
        Check.due("after a program", 1, x.type('x'));
        Check.refused("no program", Refusals.ARGUMENT, () -> x.run());
        Check.due("after no program", 1, x.type('w'));
        Check.refused("begun program", Refusals.ARGUMENT, () -> x.run());
        Check.due("after a begun program", 1, x.type('l'));
        Check.type(x, "ight 0");
        Check.refused("failing command", Refusals.UNSUPPORTED, () -> x.run());
        Check.refused("empty after a failing command", Refusals.ARGUMENT, () -> x.run());
        Check.due("error position of nothing", 0, x.errorPosition());
        Check.due("after nothing", 1, x.type('w'));
        Check.type(x, "ait;" + "wait;".repeat(11));
        Check.refused("full", Refusals.ARGUMENT, () -> x.run());
        Check.due("after a full one", 1, x.type('w'));
    }

    private static void numberOfCommands() {
        Check.sentence("Promise 43", "Returns the number of commands");
        CandleConcert x = new CandleConcert();
        StringBuilder text = new StringBuilder("wait");
        for (int commands = 1; commands <= 12; commands++) {
            Check.due(text.toString(), commands, Check.run(x, text.toString()));
            text.append(";wait");
        }
        Check.due("time", 78, x.time());
    }

    private static void runNoProgram() {
        Check.sentence("Promise 43", "Throws `IllegalArgumentException` if the text is not a program; its error "
            + "position is recorded");
        CandleConcert x = Concerts.two();
        wrong(x, "", 0);
        wrong(x, "light 0;", 8);
        wrong(x, "light 0;light 9;", 16);
        wrong(x, "light 9;x", 8);
        Check.due("nothing is lit", 0, x.litCandles());
        Check.refused("no command failed", Refusals.NO_ELEMENT, () -> x.failedCommand());
    }

    private static void fails(CandleConcert x, String text, int command) {
        Check.refused("\"" + text + "\"", Refusals.UNSUPPORTED, () -> Check.run(x, text));
        Check.due("failed command of \"" + text + "\"", command, Check.answer(x::failedCommand));
    }

    private static void commandFails() {
        Check.sentence("Promise 43", "Throws `UnsupportedOperationException` if a command fails, that is, if the "
            + "method for it throws an exception; the number of this command, counted from 0, is recorded");
    }

    private static void runFailingCandle() {
        commandFails();
        CandleConcert x = new CandleConcert();
        fails(x, "candle s0/1", 0);
        fails(x, "candle s000/1", 0);
        fails(x, "candle s1/0", 0);
        Check.due("least and most", 2, Check.run(x, "candle s1/1;candle s999/9"));
        for (int i = 2; i < 9; i++) {
            x.addCandle('a', 5, 5);
        }
        fails(x, "candle s1/1;candle s1/1", 1);
        Check.due("candles", 9, x.candles());
        Check.due("the tenth", 1, Check.run(x, "candle s1/1"));
        fails(x, "candle s1/1", 0);
    }

    private static void runFailingLightAndSnuff() {
        commandFails();
        CandleConcert x = Concerts.two();
        fails(x, "light 2", 0);
        fails(x, "light 9", 0);
        fails(x, "light 0;light 1;light 0", 2);
        fails(x, "light 0;wait 4;light 0", 2);
        fails(x, "snuff 0", 0);
        fails(x, "snuff 2", 0);
        fails(x, "light 0;snuff 0;snuff 0", 2);
        fails(x, "light 0;wait 4;snuff 0", 2);
        Check.due("lit", 0, x.litCandles());
        Check.due("light and snuff", 4, Check.run(x, "light 0;snuff 0;light 1;light 0"));
    }

    private static void runFailingPour() {
        commandFails();
        CandleConcert x = Concerts.oneLit(20, 5);
        x.addCandle('a', 998, 5);
        x.pass(3);
        fails(x, "pour 2+1", 0);
        fails(x, "pour 1+0", 0);
        fails(x, "pour 0+1", 0);
        fails(x, "pour 1+2", 0);
        fails(x, "snuff 0;pour 0+4", 1);
        fails(x, "snuff 0;pour 0+1;pour 0+2;pour 0+1", 3);
        Check.due("dish", 3, x.dish());
        Check.due("all of the dish", 3, Check.run(x, "snuff 0;pour 0+2;pour 1+1"));
    }

    private static void runFailingDraughtAndWait() {
        commandFails();
        CandleConcert x = new CandleConcert();
        for (int draught = 4; draught <= 9; draught++) {
            fails(x, "draught 3;draught " + draught, 1);
        }
        Check.due("least and greatest draught", 2, Check.run(x, "draught 0;draught 3"));
        fails(x, "wait 0", 0);
        fails(x, "wait 000", 0);
        fails(x, "wait 241", 0);
        fails(x, "wait;wait 999", 1);
        Check.due("time", 0, x.time());
        Check.due("least and longest wait", 2, Check.run(x, "wait 1;wait 240"));
        Check.due("time after both", 241, x.time());
    }

    private static void runFailingPlanAndDrop() {
        commandFails();
        CandleConcert x = Concerts.two();
        fails(x, "plan 0 l0", 0);
        fails(x, "plan 1 l2", 0);
        fails(x, "wait 3;plan 3 l0", 1);
        fails(x, "plan 0 l9", 0);
        fails(x, "drop 0", 0);
        fails(x, "drop 999", 0);
        fails(x, "plan 5 l0;plan 6 l0;drop 2", 2);
        Check.due("least and latest minute", 3, Check.run(x, "plan 1 l0;plan 999 s1;drop 1"));
        for (int i = 0; i < 18; i++) {
            x.schedule(5, 0, true);
        }
        fails(x, "plan 7 l0;plan 7 l0", 1);
        Check.due("the 20th", 1, Check.run(x, "plan 7 l0"));
        fails(x, "plan 7 l0", 0);
        fails(x, "drop 20", 0);
        Check.due("the last position", 1, Check.run(x, "drop 19"));
    }

    private static void latestErrorPosition() {
        Check.sentence("Promise 44", "Returns the recorded error position of the latest text that was not a program");
        CandleConcert x = new CandleConcert();
        wrong(x, "wait;wait;x", 10);
        wrong(x, "wai", 3);
        wrong(x, "x", 0);
        wrong(x, "wait;", 5);
        Check.run(x, "wait");
        Check.due("after a program", 5, x.errorPosition());
        Check.refused("failing command", Refusals.UNSUPPORTED, () -> Check.run(x, "light 0"));
        Check.due("after a failing command", 5, x.errorPosition());
        Check.due("asked again", 5, x.errorPosition());
    }

    private static void noErrorPosition() {
        Check.sentence("Promise 44", "Throws `NoSuchElementException` if there was no such text");
        CandleConcert x = new CandleConcert();
        Check.refused("new", Refusals.NO_ELEMENT, () -> x.errorPosition());
        Check.run(x, "wait");
        Check.refused("after a program", Refusals.NO_ELEMENT, () -> x.errorPosition());
        Check.refused("failing command", Refusals.UNSUPPORTED, () -> Check.run(x, "light 0"));
        Check.refused("after a failing command", Refusals.NO_ELEMENT, () -> x.errorPosition());
        x.type('x');
        Check.refused("before the run", Refusals.NO_ELEMENT, () -> x.errorPosition());
        wrong(x, "", 0);
    }

    private static void latestFailedCommand() {
        Check.sentence("Promise 45", "Returns the recorded number of the latest command that failed in a program");
        CandleConcert x = new CandleConcert();
        fails(x, "wait;wait;light 0", 2);
        fails(x, "light 0", 0);
        fails(x, "wait;".repeat(10) + "light 0", 10);
        Check.run(x, "wait");
        Check.due("after a program", 10, x.failedCommand());
        wrong(x, "light 0;x", 8);
        Check.due("after no program", 10, x.failedCommand());
        Check.due("asked again", 10, x.failedCommand());
    }

    private static void noFailedCommand() {
        Check.sentence("Promise 45", "Throws `NoSuchElementException` if no command failed");
        CandleConcert x = new CandleConcert();
        Check.refused("new", Refusals.NO_ELEMENT, () -> x.failedCommand());
        Check.run(x, "wait");
        Check.refused("after a program", Refusals.NO_ELEMENT, () -> x.failedCommand());
        wrong(x, "light 0;", 8);
        Check.refused("after no program", Refusals.NO_ELEMENT, () -> x.failedCommand());
        Check.refused("light", Refusals.INDEX, () -> x.light(0));
        Check.refused("after a call that failed", Refusals.NO_ELEMENT, () -> x.failedCommand());
        fails(x, "light 0", 0);
    }
}
