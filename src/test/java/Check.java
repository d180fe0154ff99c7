/** Counts and prints the answers that are not the ones that are due. */
final class Check {
    /** What a call answers when it throws, by the exception's class. */
    static final String ARGUMENT = "throws.IllegalArgumentException";
    static final String STATE = "throws.IllegalStateException";
    static final String INDEX = "throws.IndexOutOfBoundsException";

    private static int wrong = 0;
    private static String sentence = "";

    private Check() {
    }

    /** A call of the program. */
    interface Call {
        Object answer();
    }

    /** A call of the program that answers nothing. */
    interface Deed {
        void make();
    }

    /** Runs the test of one sentence of the document, which is named when an answer is not as due. */
    static void sentence(String words, Deed test) {
        sentence = words + " -- ";
        try {
            test.make();
        } catch (RuntimeException e) {
            same("a call that should have gone well", "done", "throws." + e.getClass().getSimpleName());
        }
        sentence = "";
    }

    static String answerOf(Call call) {
        try {
            return String.valueOf(call.answer());
        } catch (RuntimeException e) {
            return "throws." + e.getClass().getSimpleName();
        }
    }

    static String answerOf(Deed deed) {
        return answerOf(() -> {
            deed.make();
            return "done";
        });
    }

    static void due(String what, Object want, Call call) {
        same(what, String.valueOf(want), answerOf(call));
    }

    static void done(String what, Deed deed) {
        same(what, "done", answerOf(deed));
    }

    static void refused(String what, String exception, Deed deed) {
        same(what, exception, answerOf(deed));
    }

    static void same(String what, String want, String got) {
        if (!want.equals(got)) {
            wrong++;
            System.out.println(sentence + what + ": answered " + got + ", due is " + want);
        }
    }

    static void end() {
        if (wrong != 0) {
            System.out.println(wrong + " answers are not as due");
            System.exit(1);
        }
    }
}
