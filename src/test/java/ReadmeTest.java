/** What README.md says: its example, line by line, and its commands. */
public final class ReadmeTest {
    private ReadmeTest() {
    }

    public static void main(String[] args) {
        Check.test(ReadmeTest::example);
        Check.test(ReadmeTest::commands);
        Check.end();
    }

    private static void example() {
        CandleConcert concert = new CandleConcert();
        Check.due("addCandle", 0, concert.addCandle('s', 20, 6));
        Check.due("schedule", 0, concert.schedule(5, 0, true));
        Check.due("minutesUntilDark", 8, concert.minutesUntilDark());
        Check.due("run", 2, Check.run(concert, "wait 6;snuff 0"));
        Check.due("writeCandle", 6, concert.writeCandle(0));
        Check.due("line", "0s=8/6", Check.line(concert, 6));
        Check.due("charAt", 's', concert.charAt(1));
        Check.due("undo", 2, concert.undo());
        Check.due("time after the undo", 0, concert.time());
        Check.due("save", 1, concert.save());
        Check.due("pass", 20, concert.pass(240));
        Check.due("restore", 1, concert.restore());
        Check.due("time after the restore", 0, concert.time());
        Check.refused("undo after the restore", Refusals.STATE, () -> concert.undo());
    }

    private static void commands() {
        CandleConcert x = new CandleConcert();
        Check.due("candle to wait", 4, Check.run(x, "candle s20/6;light 0;wait;snuff 0"));
        Check.due("wax", 14, x.wax(0));
        Check.due("wait with a number", 3, Check.run(x, "light 0;wait 2;snuff 0"));
        Check.due("dish", 3, x.dish());
        Check.due("pour and draught", 2, Check.run(x, "pour 0+3;draught 2"));
        Check.due("wax after the pour", 5, x.wax(0));
        Check.due("consumption", 8, x.consumption(0));
        Check.due("plan and drop", 3, Check.run(x, "plan 5 l0;plan 6 s0;drop 0"));
        Check.due("events", 1, x.events());
        Check.due("kind", false, x.isLighting(0));
    }
}
