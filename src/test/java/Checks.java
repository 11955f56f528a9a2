/** Counts the answers of one test program, and prints each that is not the one that is due. */
final class Checks {
    /** A call whose answer, or exception, is checked. */
    interface Call {
        Object answer();
    }

    private final String title;
    private String at = "";
    private int right;
    private int wrong;

    Checks(String title) {
        this.title = title;
    }

    /** Names the test whose answers come next. */
    void at(String test) {
        at = test + ": ";
    }

    int seen() {
        return right + wrong;
    }

    void due(String call, long got, long want) {
        judge(got == want, call, String.valueOf(got), String.valueOf(want));
    }

    /** Told by their bits, so that -0.0 and NaN do not pass for 0.0. */
    void due(String call, double got, double want) {
        boolean isSame = Double.doubleToRawLongBits(got) == Double.doubleToRawLongBits(want);
        judge(isSame, call, String.valueOf(got), String.valueOf(want));
    }

    void due(String call, boolean got, boolean want) {
        judge(got == want, call, String.valueOf(got), String.valueOf(want));
    }

    void due(String call, String got, String want) {
        judge(got.equals(want), call, got, want);
    }

    void indexOut(String call, Call made) {
        due(call, outcome(made), "throws.IndexOutOfBoundsException");
    }

    void badArgument(String call, Call made) {
        due(call, outcome(made), "throws.IllegalArgumentException");
    }

    void badState(String call, Call made) {
        due(call, outcome(made), "throws.IllegalStateException");
    }

    /** The answer as a text, or throws. and the exception's name; what the machine threw itself is told so. */
    static String outcome(Call made) {
        try {
            return text(made.answer());
        } catch (RuntimeException thrown) {
            StackTraceElement[] trace = thrown.getStackTrace();
            boolean isOwn = trace.length > 0 && trace[0].getClassName().startsWith("BallotLoom");
            return (isOwn ? "throws." : "the machine throws.") + thrown.getClass().getSimpleName();
        }
    }

    static String text(Object answer) {
        if (answer instanceof Double) {
            return answer + " (" + Long.toHexString(Double.doubleToRawLongBits((Double) answer)) + ")";
        }
        return String.valueOf(answer);
    }

    void judge(boolean isRight, String call, String got, String want) {
        if (isRight) {
            right++;
        } else {
            wrong++;
            System.out.println(title + ": " + at + call + " answered " + got + ", due is " + want);
        }
    }

    /** Ends the program with exit code 1, if an answer was wrong or none was checked. */
    void finish() {
        System.out.println(title + ": " + right + " answers as due, " + wrong + " not");
        if (wrong > 0 || right == 0) {
            System.exit(1);
        }
    }
}
