import java.util.function.Supplier;

/** What the tests share: a comparison that counts what is wrong, and small steps that many tests need. */
final class Check {
    private static int wrong = 0;
    private static String about = "";

    private Check() {
    }

    /** One test of a class that has many: what it throws is told as a wrong answer, and the next one goes on. */
    static void test(Runnable test) {
        about = "";
        due("the test", "an end", answer(() -> {
            test.run();
            return "an end";
        }));
    }

    /** The sentence of the document that the next answers are about: it is told ahead of each that is wrong. */
    static void sentence(String where, String words) {
        about = where + ": " + words + "\n    ";
    }

    static void due(String what, Object want, Object got) {
        if (!want.equals(got)) {
            wrong++;
            System.out.println(about + what + " answered " + got + ", due is " + want);
        }
    }

    /** The very class is due: what the machine throws is often of a class below the one of the document. */
    static void refused(String what, Class<? extends RuntimeException> want, Runnable call) {
        due(what, "throws " + want.getName(), answer(() -> {
            call.run();
            return "nothing thrown";
        }));
    }

    static Object answer(Supplier<Object> call) {
        try {
            return call.get();
        } catch (RuntimeException e) {
            return "throws " + e.getClass().getName();
        }
    }

    static void type(CandleConcert concert, String text) {
        for (int i = 0; i < text.length(); i++) {
            concert.type(text.charAt(i));
        }
    }

    static int run(CandleConcert concert, String text) {
        type(concert, text);
        return concert.run();
    }

    static String line(CandleConcert concert, int length) {
        StringBuilder line = new StringBuilder();
        for (int i = 0; i < length; i++) {
            line.append(concert.charAt(i));
        }
        return line.toString();
    }

    static void end() {
        System.out.println(wrong == 0 ? "all answers are as due" : wrong + " answers are not as due");
        if (wrong != 0) {
            System.exit(1);
        }
    }
}
