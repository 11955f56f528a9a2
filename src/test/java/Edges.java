/** Asks at a bound and just beyond it, and that a call which is refused changes nothing. */
final class Edges {
    static final String INDEX = "throws.IndexOutOfBoundsException";
    static final String ARGUMENT = "throws.IllegalArgumentException";
    static final String STATE = "throws.IllegalStateException";

    interface Call {
        Object on(BallotLoom x);
    }

    interface ValueCall {
        Object on(BallotLoom x, int value);
    }

    private final Checks checks;

    Edges(Checks checks) {
        this.checks = checks;
    }

    /** The call throws that exception, and all other calls answer then as if it had not been made. */
    void refused(String exception, String name, Boxes.Maker box, Call call) {
        checks.due(name, Checks.outcome(() -> call.on(box.make())), exception);
        Boxes.Maker after = () -> {
            BallotLoom x = box.make();
            Checks.outcome(() -> call.on(x));
            return x;
        };
        String difference = AllAnswers.difference(AllAnswers.of(after), AllAnswers.of(box));
        checks.due(name + ", what it changes", difference, "none");
    }

    void allowed(String name, Boxes.Maker box, Call call) {
        String got = Checks.outcome(() -> call.on(box.make()));
        checks.judge(!got.contains("throws."), name, got, "an answer");
    }

    /** Values of least to most are answered; the next ones on both sides, and the farthest, are refused. */
    void within(String exception, String name, Boxes.Maker box, int least, int most, ValueCall call) {
        for (int value = least; value <= most; value += value == least && most > least ? most - least : 1) {
            int fine = value;
            allowed(name + " " + fine, box, x -> call.on(x, fine));
        }
        for (int value : new int[] {least - 1, most + 1, Integer.MIN_VALUE, Integer.MAX_VALUE}) {
            refused(exception, name + " " + value, box, x -> call.on(x, value));
        }
    }

    /** There is none at all: no number is answered. */
    void none(String exception, String name, Boxes.Maker box, ValueCall call) {
        for (int value : new int[] {-1, 0, 1}) {
            refused(exception, name + " " + value + " of none", box, x -> call.on(x, value));
        }
    }
}
