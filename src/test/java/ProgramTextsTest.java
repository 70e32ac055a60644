/** All texts that differ from some programs in one place, each on its own objects, compared with the model. */
public final class ProgramTextsTest {
    private static final String[] PROGRAMS = {"candle s12/3", "candle b999/9", "light 0", "snuff 1", "pour 0+3",
        "pour 1+100", "draught 2", "plan 7 l0", "plan 123 s1", "drop 0", "drop 012", "wait", "wait 2", "wait 240",
        "light 0;wait", "wait;snuff 1", "wait 1;drop 0;wait"};
    private static final char[] WIDE = {128, 176, 255, 256, 256 + 's', 256 + ';', 256 + '0', 128 + '9', 0x0661,
        0xff10, 0xffff};

    private ProgramTextsTest() {
    }

    public static void main(String[] args) {
        for (String program : PROGRAMS) {
            compare(program);
            for (int i = 0; i <= program.length(); i++) {
                String ahead = program.substring(0, i);
                compare(ahead);
                compareAround(ahead, program.substring(i));
            }
        }
        Check.end();
    }

    /** A character is put between, or in place of the first one behind, or that one is left out. */
    private static void compareAround(String ahead, String behind) {
        String rest = behind.isEmpty() ? behind : behind.substring(1);
        compare(ahead + rest);
        for (char character = 0; character < 128; character++) {
            compare(ahead + character + behind);
            compare(ahead + character + rest);
        }
        for (char character : WIDE) {
            compare(ahead + character + behind);
            compare(ahead + character + rest);
        }
    }

    /** Candle 1 is lit, the dish has 3 units, an event is scheduled: so that each command can succeed. */
    private static void compare(String text) {
        CandleConcert x = new CandleConcert();
        Model m = new Model();
        x.addCandle('s', 20, 5);
        m.addCandle('s', 20, 5);
        x.addCandle('b', 50, 5);
        m.addCandle('b', 50, 5);
        x.light(1);
        m.light(1);
        x.pass(3);
        m.pass(3);
        x.schedule(5, 0, true);
        m.schedule(5, 0, true);
        Check.type(x, text);
        m.text.append(text);
        Check.due("run of \"" + text + "\"", Check.answer(m::run), Check.answer(x::run));
        Check.due("error position of \"" + text + "\"", Check.answer(m::errorPosition), Check.answer(x::errorPosition));
        Check.due("failed command of \"" + text + "\"", Check.answer(m::failedCommand), Check.answer(x::failedCommand));
        Check.due("events of \"" + text + "\"", m.now.events.size(), x.events());
        Check.due("time of \"" + text + "\"", m.now.time, x.time());
        Check.due("mean wax of \"" + text + "\"", m.meanWax(), x.meanWax());
    }
}
