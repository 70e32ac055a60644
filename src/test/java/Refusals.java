import java.util.NoSuchElementException;
import java.util.function.Consumer;
import java.util.function.Supplier;

/** The exceptions of the document, and the check that a call that throws one changes nothing. */
final class Refusals {
    static final Class<IllegalArgumentException> ARGUMENT = IllegalArgumentException.class;
    static final Class<IllegalStateException> STATE = IllegalStateException.class;
    static final Class<IndexOutOfBoundsException> INDEX = IndexOutOfBoundsException.class;
    static final Class<UnsupportedOperationException> UNSUPPORTED = UnsupportedOperationException.class;
    static final Class<NoSuchElementException> NO_ELEMENT = NoSuchElementException.class;
    static final Class<ArithmeticException> ARITHMETIC = ArithmeticException.class;

    private Refusals() {
    }

    /** An object on which the refused call was tried answers as one on which it was not. */
    static void check(String what, Class<? extends RuntimeException> want, Supplier<CandleConcert> make,
            Consumer<CandleConcert> call) {
        CandleConcert tried = make.get();
        CandleConcert untried = make.get();
        Check.refused(what, want, () -> call.accept(tried));
        Check.due("after " + what + ", all", Answers.ofAll(untried), Answers.ofAll(tried));
        Check.due("after " + what + ", the hidden", Answers.ofTheHidden(untried), Answers.ofTheHidden(tried));
    }
}
