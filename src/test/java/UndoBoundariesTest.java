import java.util.function.Consumer;

/** Each boundary that the promises 46 to 48 and "Undo" in the terms name: a test of its own. */
public final class UndoBoundariesTest {
    private UndoBoundariesTest() {
    }

    public static void main(String[] args) {
        Check.test(UndoBoundariesTest::eightLatest);
        Check.test(UndoBoundariesTest::eightLatestAfterMany);
        Check.test(UndoBoundariesTest::eightLatestOfEveryKind);
        Check.test(UndoBoundariesTest::eachKindOfChange);
        Check.test(UndoBoundariesTest::runIsOneChange);
        Check.test(UndoBoundariesTest::changeToTheSame);
        Check.test(UndoBoundariesTest::refusedCallsAreNoChanges);
        Check.test(UndoBoundariesTest::failedRunsAreNoChanges);
        Check.test(UndoBoundariesTest::otherCallsAreNoChanges);
        Check.test(UndoBoundariesTest::undoneIsEverything);
        Check.test(UndoBoundariesTest::undoneIsNotTheRest);
        Check.test(UndoBoundariesTest::restoredIsEverything);
        Check.test(UndoBoundariesTest::restoredCandlesInThePlaceOfOthers);
        Check.test(UndoBoundariesTest::restoredIsNotTheRest);
        Check.test(UndoBoundariesTest::leftToUndo);
        Check.test(UndoBoundariesTest::latestThatWasNotUndone);
        Check.test(UndoBoundariesTest::nothingToUndo);
        Check.test(UndoBoundariesTest::savedInPlace);
        Check.test(UndoBoundariesTest::savedIsApart);
        Check.test(UndoBoundariesTest::savedCandles);
        Check.test(UndoBoundariesTest::savedTwice);
        Check.test(UndoBoundariesTest::staysSaved);
        Check.test(UndoBoundariesTest::noUndoAfterRestore);
        Check.test(UndoBoundariesTest::eightLatestAfterRestore);
        Check.test(UndoBoundariesTest::restoredCandles);
        Check.test(UndoBoundariesTest::nothingSaved);
        Check.end();
    }

    private static CandleConcert afterMinutes(int minutes) {
        CandleConcert x = new CandleConcert();
        for (int i = 0; i < minutes; i++) {
            x.pass(1);
        }
        return x;
    }

    private static void eightLatest() {
        Check.sentence("Terms", "The 8 latest changes can be undone");
        for (int changes = 0; changes <= 8; changes++) {
            CandleConcert x = afterMinutes(changes);
            for (int left = changes - 1; left >= 0; left--) {
                Check.due("undo of " + changes, left, Check.answer(x::undo));
                Check.due("time, undo of " + changes, left, x.time());
            }
            Check.refused("one more undo of " + changes, Refusals.STATE, () -> x.undo());
        }
    }

    private static void eightLatestAfterMany() {
        Check.sentence("Terms", "The 8 latest changes can be undone");
        for (int changes : new int[] {9, 10, 15, 16, 17, 24, 25, 64, 65, 100, 255, 256, 257, 500}) {
            CandleConcert x = afterMinutes(changes);
            for (int left = 7; left >= 0; left--) {
                Check.due("undo of " + changes, left, Check.answer(x::undo));
            }
            Check.refused("the ninth undo of " + changes, Refusals.STATE, () -> x.undo());
            Check.due("time, undo of " + changes, changes - 8, x.time());
        }
    }

    private static void eightLatestOfEveryKind() {
        Check.sentence("Terms", "The 8 latest changes can be undone");
        CandleConcert x = afterChanges(9);
        for (int i = 8; i >= 1; i--) {
            Check.due("undo", i - 1, Check.answer(x::undo));
            Check.due("state " + i, Answers.ofState(afterChanges(i)), Answers.ofState(x));
        }
        Check.refused("the ninth", Refusals.STATE, () -> x.undo());
        Check.due("state", Answers.ofState(afterChanges(1)), Answers.ofState(x));
    }

    /** Two candles, one of them burning, and so many of the changes that follow. */
    private static CandleConcert afterChanges(int changes) {
        CandleConcert x = Concerts.two();
        x.light(1);
        x.pass(1);
        for (int i = 0; i < changes; i++) {
            change(x, i);
        }
        return x;
    }

    /** Changes that follow one another: one of each kind, and a last one. */
    private static void change(CandleConcert x, int number) {
        switch (number) {
            case 0 -> x.addCandle('t', 40, 8);
            case 1 -> x.light(2);
            case 2 -> x.schedule(20, 0, true);
            case 3 -> x.pass(3);
            case 4 -> x.snuff(2);
            case 5 -> x.pour(2, 2);
            case 6 -> x.setDraught(1);
            case 7 -> x.unschedule(0);
            default -> Check.run(x, "light 0;wait 9;draught 3");
        }
    }

    private static void eachKindOfChange() {
        Check.sentence("Terms", "A change is a successful call of addCandle, light, snuff, pour, setDraught, "
            + "schedule, unschedule, pass or run");
        for (int number = 0; number <= 8; number++) {
            CandleConcert x = afterChanges(number);
            x.save();
            x.restore();
            String state = Answers.ofState(x);
            Check.refused("undo before the change " + number, Refusals.STATE, () -> x.undo());
            change(x, number);
            Check.due("another state by the change " + number, false, state.equals(Answers.ofState(x)));
            Check.due("undo of the change " + number, 0, Check.answer(x::undo));
            Check.due("state after undo of the change " + number, state, Answers.ofState(x));
        }
    }

    private static void runIsOneChange() {
        Check.sentence("Terms", "A change is a successful call of .. run");
        CandleConcert x = new CandleConcert();
        Check.run(x, "candle s9/1;light 0;wait 3;draught 2;plan 9 s0;wait");
        Check.run(x, "wait;".repeat(11) + "wait");
        Check.due("undo of the second", 1, Check.answer(x::undo));
        Check.due("time", 4, x.time());
        Check.due("undo of the first", 0, Check.answer(x::undo));
        Check.due("candles", 0, x.candles());
        Check.refused("a third", Refusals.STATE, () -> x.undo());
        for (int i = 0; i < 10; i++) {
            Check.run(x, "wait;wait");
        }
        for (int left = 7; left >= 0; left--) {
            Check.due("undo", left, Check.answer(x::undo));
        }
        Check.due("time of the eight latest", 4, x.time());
    }

    private static void changeToTheSame() {
        Check.sentence("Terms", "A change is a successful call of .. setDraught");
        CandleConcert x = new CandleConcert();
        x.setDraught(0);
        x.setDraught(0);
        Check.due("undo", 1, Check.answer(x::undo));
        Check.due("undo again", 0, Check.answer(x::undo));
        Check.refused("a third", Refusals.STATE, () -> x.undo());
    }

    private static void refusedCallsAreNoChanges() {
        Check.sentence("Terms", "A change is a successful call");
        CandleConcert x = Concerts.lively();
        Check.answer(() -> x.addCandle('s', 0, 1));
        Check.answer(() -> x.light(1));
        Check.answer(() -> x.snuff(2));
        Check.answer(() -> x.pour(2, 4));
        Check.answer(() -> x.setDraught(4));
        Check.answer(() -> x.schedule(4, 0, true));
        Check.answer(() -> x.unschedule(1));
        Check.answer(() -> x.pass(241));
        Check.due("undo", 7, Check.answer(x::undo));
        Check.due("draught", 0, x.draught());
        Check.due("undo of the pass", 6, Check.answer(x::undo));
        Check.due("time", 0, x.time());
        for (int left = 5; left >= 0; left--) {
            Check.due("undo of the rest", left, Check.answer(x::undo));
        }
        Check.due("candles", 1, x.candles());
    }

    private static void failedRunsAreNoChanges() {
        Check.sentence("Terms", "A change is a successful call of .. run");
        CandleConcert x = afterMinutes(9);
        for (int i = 0; i < 10; i++) {
            Check.answer(() -> Check.run(x, "wait;wait;light 0"));
            Check.answer(() -> Check.run(x, "wait;wait;"));
        }
        for (int left = 7; left >= 0; left--) {
            Check.due("undo", left, Check.answer(x::undo));
        }
        Check.due("time", 1, x.time());
    }

    private static void otherCallsAreNoChanges() {
        Check.sentence("Terms", "A change is a successful call of addCandle, light, snuff, pour, setDraught, "
            + "schedule, unschedule, pass or run");
        CandleConcert x = Concerts.two();
        x.save();
        x.type('w');
        x.writeCandle(0);
        x.writeEvents();
        x.isConsistent();
        x.minutesUntilDark();
        x.minutesUntilDarkByLeaps();
        Answers.ofAll(x);
        Check.due("undo", 1, Check.answer(x::undo));
        Check.due("candles", 1, x.candles());
        Check.due("undo of the first", 0, Check.answer(x::undo));
        Check.refused("a third", Refusals.STATE, () -> x.undo());
    }

    private static void everything() {
        Check.sentence("Terms", "The state that is undone, saved and restored consists of everything except the "
            + "program buffer, the error position, the failed command and the output line");
    }

    /** Changes all that can change, by one change, a run that goes on with the text that is begun. */
    private static void changeEverything(CandleConcert x) {
        Check.type(x, ";light 2;draught 3;pour 0+1;light 0;wait 60;drop 0");
        Check.due("a program", 7, Check.answer(x::run));
        Check.due("events", 0, x.events());
        Check.due("failure", 'n', x.failureReason());
        Check.due("last candle", 1, x.lastCandle());
    }

    /** The lively one with three events more. */
    private static CandleConcert planned() {
        CandleConcert x = Concerts.lively();
        x.schedule(60, 2, true);
        x.schedule(61, 0, false);
        x.schedule(200, 0, false);
        return x;
    }

    private static void undoneIsEverything() {
        everything();
        CandleConcert x = planned();
        String state = Answers.ofState(x);
        changeEverything(x);
        x.undo();
        Check.due("state", state, Answers.ofState(x));
    }

    private static void undoneIsNotTheRest() {
        everything();
        CandleConcert x = planned();
        x.undo();
        Check.due("output line", "1b=112/4*", Answers.ofLine(x));
        Check.due("error position", 5, x.errorPosition());
        Check.due("failed command", 1, x.failedCommand());
        x.pass(1);
        Check.due("buffer", 7, x.type(';'));
        x.undo();
        Check.due("buffer after an undo", 8, x.type('x'));
        x.pass(1);
        Check.refused("buffer is run", Refusals.ARGUMENT, () -> x.run());
        Check.refused("failing command", Refusals.UNSUPPORTED, () -> Check.run(x, "wait;wait;light 9"));
        x.writeEvents();
        x.undo();
        Check.due("error position that is new", 7, x.errorPosition());
        Check.due("failed command that is new", 2, x.failedCommand());
        Check.due("output line that is new", "50l2 60l2 61s0", Answers.ofLine(x));
        Check.due("buffer that is empty", 1, x.type('w'));
    }

    private static void restoredIsEverything() {
        everything();
        CandleConcert x = planned();
        x.save();
        String state = Answers.ofState(x);
        changeEverything(x);
        x.addCandle('a', 7, 7);
        x.restore();
        Check.due("state", state, Answers.ofState(x));
    }

    private static void restoredCandlesInThePlaceOfOthers() {
        everything();
        CandleConcert x = Concerts.two();
        x.addCandle('t', 100, 9);
        x.light(2);
        x.save();
        String state = Answers.ofState(x);
        x.undo();
        x.undo();
        x.addCandle('a', 7, 1);
        x.schedule(3, 2, true);
        x.restore();
        Check.due("state", state, Answers.ofState(x));
        Check.due("voice", 't', x.voice(2));
    }

    private static void restoredIsNotTheRest() {
        everything();
        CandleConcert x = planned();
        x.save();
        x.writeCandle(2);
        Check.refused("no program", Refusals.ARGUMENT, () -> Check.run(x, ";"));
        Check.refused("failing command", Refusals.UNSUPPORTED, () -> Check.run(x, "light 9"));
        Check.type(x, "wait;wait");
        x.restore();
        Check.due("output line", "2t=990/9", Answers.ofLine(x));
        Check.due("error position", 7, x.errorPosition());
        Check.due("failed command", 0, x.failedCommand());
        Check.due("buffer", 2, Check.answer(x::run));
        Check.due("time", 6, x.time());
    }

    private static void leftToUndo() {
        Check.sentence("Promise 46", "Returns the number of changes that can still be undone");
        CandleConcert x = afterMinutes(20);
        for (int left = 7; left >= 3; left--) {
            Check.due("left", left, Check.answer(x::undo));
        }
        CandleConcert y = afterMinutes(2);
        Check.due("one left", 1, Check.answer(y::undo));
        y.pass(5);
        Check.due("one left after another change", 1, Check.answer(y::undo));
        Check.due("none left", 0, Check.answer(y::undo));
    }

    private static void latestThatWasNotUndone() {
        Check.sentence("Promise 46", "Undoes the latest change that was not undone");
        CandleConcert x = new CandleConcert();
        x.pass(1);
        x.pass(10);
        x.pass(100);
        x.undo();
        Check.due("without the third", 11, x.time());
        x.undo();
        Check.due("without the second", 1, x.time());
        x.pass(200);
        x.undo();
        Check.due("without the fourth", 1, x.time());
        x.undo();
        Check.due("without the first", 0, x.time());
        x.pass(7);
        Check.due("a fifth", 7, x.time());
        Check.due("undo of the fifth", 0, Check.answer(x::undo));
        Check.due("without it", 0, x.time());
    }

    private static void nothingToUndo() {
        Check.sentence("Promise 46", "Throws `IllegalStateException` if no change can be undone");
        CandleConcert x = new CandleConcert();
        Check.refused("new", Refusals.STATE, () -> x.undo());
        Check.answer(() -> x.light(0));
        Check.refused("after a refused call", Refusals.STATE, () -> x.undo());
        x.save();
        Check.refused("after a save", Refusals.STATE, () -> x.undo());
        x.pass(1);
        x.undo();
        Check.refused("after the only undo", Refusals.STATE, () -> x.undo());
        Check.refused("and again", Refusals.STATE, () -> x.undo());
        x.pass(1);
        Check.due("after a change", 0, Check.answer(x::undo));
        CandleConcert y = afterMinutes(30);
        for (int i = 0; i < 8; i++) {
            y.undo();
        }
        Check.refused("after eight", Refusals.STATE, () -> y.undo());
        Check.due("time", 22, y.time());
    }

    private static void savedInPlace() {
        Check.sentence("Promise 47", "Saves the state in place of the state that was saved before");
        CandleConcert x = Concerts.two();
        x.save();
        x.pass(5);
        x.addCandle('a', 9, 9);
        Check.due("second", 3, x.save());
        x.pass(5);
        Check.due("restore", 3, Check.answer(x::restore));
        Check.due("time of the second", 5, x.time());
        x.pass(1);
        x.save();
        x.restore();
        Check.due("time of the third", 6, x.time());
    }

    private static void savedIsApart() {
        Check.sentence("Promise 47", "Saves the state");
        CandleConcert x = Concerts.lively();
        x.save();
        String state = Answers.ofState(x);
        for (int i = 0; i < 12; i++) {
            x.pass(9);
            x.setDraught(i % 4);
        }
        for (int i = 0; i < 8; i++) {
            x.undo();
        }
        Check.answer(() -> Check.run(x, "wait 9;light 9"));
        x.isConsistent();
        x.restore();
        Check.due("state after changes, undos and a failed run", state, Answers.ofState(x));
    }

    private static void savedCandles() {
        Check.sentence("Promise 47", "Returns the number of candles");
        CandleConcert x = new CandleConcert();
        Check.due("none", 0, x.save());
        for (int i = 1; i <= 10; i++) {
            x.addCandle('s', 1, 1);
            Check.due("candles", i, x.save());
        }
        x.undo();
        Check.due("after an undo", 9, x.save());
    }

    private static void savedTwice() {
        Check.sentence("Promise 47", "Saves the state in place of the state that was saved before");
        CandleConcert x = Concerts.full();
        x.save();
        CandleConcert y = new CandleConcert();
        y.save();
        y.addCandle('s', 1, 1);
        y.restore();
        Check.due("the empty one", 0, y.candles());
        x.restore();
        Check.due("the full one", Answers.ofState(Concerts.full()), Answers.ofState(x));
    }

    private static void staysSaved() {
        Check.sentence("Promise 48", "Restores the saved state, which stays saved");
        CandleConcert x = Concerts.lively();
        x.save();
        String state = Answers.ofState(x);
        for (int i = 0; i < 3; i++) {
            x.pass(60);
            x.addCandle('a', 7, 7);
            x.light(3);
            x.setDraught(i);
            Check.due("restore", 3, Check.answer(x::restore));
            Check.due("state", state, Answers.ofState(x));
        }
        Check.due("restore at once", 3, Check.answer(x::restore));
        Check.due("state again", state, Answers.ofState(x));
    }

    private static void noUndoAfterRestore() {
        Check.sentence("Promise 48", "Afterwards no change can be undone");
        for (int changes : new int[] {0, 1, 7, 8, 9, 20}) {
            CandleConcert x = afterMinutes(changes);
            x.save();
            x.pass(3);
            x.restore();
            Check.refused("undo after " + changes, Refusals.STATE, () -> x.undo());
            Check.due("time", changes, x.time());
            x.pass(4);
            Check.due("undo of a new change", 0, Check.answer(x::undo));
            Check.due("time after it", changes, x.time());
            Check.refused("undo of more", Refusals.STATE, () -> x.undo());
        }
    }

    private static void eightLatestAfterRestore() {
        Check.sentence("Terms", "The 8 latest changes can be undone");
        for (int before = 0; before <= 9; before++) {
            CandleConcert x = afterMinutes(before);
            x.save();
            x.restore();
            for (int i = 0; i < 10; i++) {
                x.pass(1);
            }
            for (int left = 7; left >= 0; left--) {
                Check.due("undo", left, Check.answer(x::undo));
                Check.due("time", before + 2 + left, x.time());
            }
            Check.refused("the ninth", Refusals.STATE, () -> x.undo());
        }
    }

    private static void restoredCandles() {
        Check.sentence("Promise 48", "Returns the number of candles");
        CandleConcert x = new CandleConcert();
        x.save();
        x.addCandle('s', 1, 1);
        Check.due("none", 0, Check.answer(x::restore));
        Check.due("candles", 0, x.candles());
        CandleConcert y = Concerts.ten();
        y.save();
        y.undo();
        Check.due("ten", 10, Check.answer(y::restore));
        Check.due("wax of the tenth", 109, Check.answer(() -> y.wax(9)));
    }

    private static void nothingSaved() {
        Check.sentence("Promise 48", "Throws `IllegalStateException` if no state was saved");
        CandleConcert x = new CandleConcert();
        Check.refused("new", Refusals.STATE, () -> x.restore());
        x.addCandle('s', 1, 1);
        Check.refused("after a change", Refusals.STATE, () -> x.restore());
        x.undo();
        Check.refused("after an undo", Refusals.STATE, () -> x.restore());
        x.save();
        Check.due("after a save", 0, Check.answer(x::restore));
        Consumer<CandleConcert> restore = y -> y.restore();
        Check.refused("another object", Refusals.STATE, () -> restore.accept(new CandleConcert()));
    }
}
