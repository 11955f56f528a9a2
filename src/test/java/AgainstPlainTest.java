import java.util.Random;

/**
 * Long runs of calls, drawn with fixed seeds, on the class and on the document's second telling (PlainLoom):
 * every answer and every exception must be the same, and none may come from the machine.
 */
final class AgainstPlainTest {
    private static final int RUNS = 700;
    private static final int CALLS = 512;
    private static final int[] FAR = {Integer.MIN_VALUE, Integer.MAX_VALUE, -1, 1000000, 501, 61, 24, 7};

    private final Random random;
    private final int run;
    private BallotLoom loom = new BallotLoom();
    private PlainLoom plain = new PlainLoom();
    /** So many of the counts and ranks that ties are common. */
    private final int countsUpTo;

    private AgainstPlainTest(int run, Checks shared) {
        this.run = run;
        this.random = new Random(run);
        int[] kinds = {2, 5, 30, 500};
        this.countsUpTo = kinds[run % kinds.length];
        this.shared = shared;
    }

    private final Checks shared;

    public static void main(String[] args) {
        Checks checks = new Checks("AgainstPlainTest");
        for (int run = 0; run < RUNS; run++) {
            new AgainstPlainTest(run, checks).goOn();
        }
        checks.finish();
    }

    private void goOn() {
        int opening = 10 + random.nextInt(30);
        for (int k = 0; k < CALLS; k++) {
            if (k < opening) {
                tell(random.nextInt(8));
            } else {
                int kind = random.nextInt(26);
                if (kind < 8) {
                    tell(kind == 7 && random.nextInt(3) > 0 ? 6 : kind);
                } else {
                    ask(kind);
                }
            }
        }
    }

    /** Mostly from 0 to below the bound, now and then next to that or far off. */
    private int near(int bound) {
        int kind = random.nextInt(40);
        if (kind == 0) {
            return FAR[random.nextInt(FAR.length)];
        }
        if (kind == 1) {
            return random.nextBoolean() ? -1 : bound;
        }
        return bound > 0 ? random.nextInt(bound) : 0;
    }

    private int nearFrom1(int most) {
        int kind = random.nextInt(40);
        if (kind == 0) {
            return FAR[random.nextInt(FAR.length)];
        }
        if (kind == 1) {
            return random.nextBoolean() ? 0 : most + 1;
        }
        return 1 + random.nextInt(most);
    }

    private int party() {
        return near(4);
    }

    private int one() {
        return near(plain.partyOf.size());
    }

    private int place() {
        return near(plain.seatsOf.size());
    }

    private int stack() {
        return near(plain.piles.size());
    }

    private int ranks() {
        if (random.nextInt(12) == 0) {
            return nearFrom1(999999);
        }
        int there = Math.max(1, plain.partyOf.size());
        int length = 1 + random.nextInt(there);
        int ranks = 0;
        boolean[] has = new boolean[7];
        for (int k = 0; k < length; k++) {
            int digit = 1 + random.nextInt(there);
            if (!has[digit]) {
                has[digit] = true;
                ranks = ranks * 10 + digit;
            }
        }
        return ranks;
    }

    private void same(String call, Checks.Call made, Checks.Call due) {
        String want;
        try {
            want = Checks.text(due.answer());
        } catch (RuntimeException thrown) {
            want = "throws." + thrown.getClass().getSimpleName();
        }
        shared.due("run " + run + ": " + call, Checks.outcome(made), want);
    }

    private void tell(int kind) {
        switch (kind) {
            case 0: {
                int p = party();
                same("candidate(" + p + ")", () -> loom.candidate(p), () -> plain.candidate(p));
                break;
            }
            case 1: {
                int s = nearFrom1(5);
                same("district(" + s + ")", () -> loom.district(s), () -> plain.district(s));
                break;
            }
            case 2: {
                if (random.nextInt(6) == 0) {
                    int c = one();
                    same("withdraw(" + c + ")", () -> loom.withdraw(c), () -> plain.withdraw(c));
                } else {
                    int t = near(21);
                    same("threshold(" + t + ")", () -> loom.threshold(t), () -> plain.threshold(t));
                }
                break;
            }
            case 3: {
                int s = stack();
                int n = nearFrom1(countsUpTo);
                same("recount(" + s + ", " + n + ")", () -> loom.recount(s, n), () -> plain.recount(s, n));
                break;
            }
            case 4: {
                int s = stack();
                int d = place();
                same("move(" + s + ", " + d + ")", () -> loom.move(s, d), () -> plain.move(s, d));
                break;
            }
            case 5: {
                boolean is = random.nextInt(4) == 0;
                same("seal(" + is + ")", () -> loom.seal(is), () -> plain.seal(is));
                if (random.nextInt(3) == 0) {
                    same("knock()", () -> loom.knock(), () -> plain.knock());
                }
                break;
            }
            default: {
                int d = place();
                int r = ranks();
                int n = nearFrom1(countsUpTo);
                same("cast(" + d + ", " + r + ", " + n + ")", () -> loom.cast(d, r, n), () -> plain.cast(d, r, n));
                break;
            }
        }
    }

    private void ask(int kind) {
        int d = place();
        int s = stack();
        int c = one();
        int other = one();
        int p = party();
        int q = party();
        int way = near(4);
        int house = nearFrom1(random.nextBoolean() ? 60 : 8);
        int rule = near(3);
        switch (kind) {
            case 8: {
                int what = near(6);
                same("ofStack(" + s + ", " + what + ")", () -> loom.ofStack(s, what), () -> plain.ofStack(s, what));
                break;
            }
            case 9:
                same("firsts(" + d + ", " + c + ")", () -> loom.firsts(d, c), () -> plain.firsts(d, c));
                break;
            case 10:
                same("points(" + d + ", " + c + ")", () -> loom.points(d, c), () -> plain.points(d, c));
                break;
            case 11: {
                boolean isPath = random.nextInt(3) > 0;
                same("pair(" + d + ", " + c + ", " + other + ", " + isPath + ")",
                        () -> loom.pair(d, c, other, isPath), () -> plain.pair(d, c, other, isPath));
                break;
            }
            case 12:
                same("winner(" + d + ", " + way + ")", () -> loom.winner(d, way), () -> plain.winner(d, way));
                break;
            case 13: {
                int round = near(6);
                same("out(" + d + ", " + round + ")", () -> loom.out(d, round), () -> plain.out(d, round));
                break;
            }
            case 14: {
                int seat = near(5);
                same("elected(" + d + ", " + seat + ")", () -> loom.elected(d, seat), () -> plain.elected(d, seat));
                break;
            }
            case 15:
                same("worth(" + s + ")", () -> loom.worth(s), () -> plain.worth(s));
                break;
            case 16: {
                int what = near(5);
                same("ofParty(" + p + ", " + what + ")", () -> loom.ofParty(p, what), () -> plain.ofParty(p, what));
                break;
            }
            case 17:
                same("share(" + p + ", " + house + ", " + rule + ")",
                        () -> loom.share(p, house, rule), () -> plain.share(p, house, rule));
                break;
            case 18:
                same("overhang(" + house + ", " + rule + ")",
                        () -> loom.overhang(house, rule), () -> plain.overhang(house, rule));
                break;
            case 19:
                same("swings(" + p + ", " + house + ", " + rule + ")",
                        () -> loom.swings(p, house, rule), () -> plain.swings(p, house, rule));
                break;
            case 20:
                same("coalition(" + house + ", " + rule + ")",
                        () -> loom.coalition(house, rule), () -> plain.coalition(house, rule));
                break;
            case 21:
                same("gap(" + p + ", " + q + ")", () -> loom.gap(p, q), () -> plain.gap(p, q));
                break;
            case 22: {
                int what = near(10);
                same("many(" + what + ")", () -> loom.many(what), () -> plain.many(what));
                break;
            }
            default:
                askWhatWouldBe(kind, d, s, way);
                break;
        }
    }

    private void askWhatWouldBe(int kind, int d, int s, int way) {
        switch (kind) {
            case 23: {
                int r = ranks();
                same("wouldWin(" + s + ", " + r + ", " + way + ")",
                        () -> loom.wouldWin(s, r, way), () -> plain.wouldWin(s, r, way));
                break;
            }
            case 24:
                same("lie(" + s + ", " + way + ")", () -> loom.lie(s, way), () -> plain.lie(s, way));
                break;
            default:
                if (random.nextInt(8) == 0) {
                    same("digest()", () -> loom.digest(), () -> plain.digest());
                } else {
                    same("margin(" + d + ")", () -> loom.margin(d), () -> plain.margin(d));
                }
                break;
        }
    }
}
