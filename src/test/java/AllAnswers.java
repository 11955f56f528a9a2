import java.util.ArrayList;
import java.util.List;

/** All that can be asked of a box, a line for each call; each part on a box of its own, within the 512 calls. */
final class AllAnswers {
    private static final int[] HOUSES = {1, 20, 60};

    private final List<String> lines = new ArrayList<>();

    private AllAnswers() {
    }

    static List<String> of(Boxes.Maker maker) {
        AllAnswers all = new AllAnswers();
        all.askHeap(maker.make());
        all.askDistricts(maker.make());
        all.askPairs(maker.make());
        all.askParties(maker.make());
        all.askWhatWouldBe(maker.make());
        all.tellOn(maker.make());
        return all.lines;
    }

    /** What districts and parties get, without the stacks themselves. */
    static List<String> ofResults(Boxes.Maker maker) {
        AllAnswers all = new AllAnswers();
        all.askDistricts(maker.make());
        all.askPairs(maker.make());
        all.askParties(maker.make());
        return all.lines;
    }

    /** What one district gets. */
    static List<String> ofDistrict(BallotLoom x, int district) {
        AllAnswers all = new AllAnswers();
        all.askDistrict(x, district);
        all.askPairsOf(x, district);
        return all.lines;
    }

    /** The first line that is not alike, or a word that there is none. */
    static String difference(List<String> one, List<String> other) {
        for (int k = 0; k < Math.min(one.size(), other.size()); k++) {
            if (!one.get(k).equals(other.get(k))) {
                return one.get(k) + " and " + other.get(k);
            }
        }
        return one.size() == other.size() ? "none" : one.size() + " and " + other.size() + " lines";
    }

    private void add(String call, Checks.Call made) {
        lines.add(call + " = " + Checks.outcome(made));
    }

    private void askHeap(BallotLoom x) {
        for (int k = 0; k <= 9; k++) {
            int what = k;
            add("many " + k, () -> x.many(what));
        }
        for (int k = 0; k < x.many(3); k++) {
            int stack = k;
            for (int w = 0; w <= 5; w++) {
                int what = w;
                add("ofStack " + k + " " + w, () -> x.ofStack(stack, what));
            }
            add("worth " + k, () -> x.worth(stack));
        }
    }

    private void askDistricts(BallotLoom x) {
        for (int d = 0; d < x.many(2); d++) {
            askDistrict(x, d);
        }
    }

    private void askDistrict(BallotLoom x, int d) {
        for (int k = 0; k <= 5; k++) {
            int at = k;
            if (k <= 3) {
                add("winner " + d + " " + k, () -> x.winner(d, at));
            }
            add("out " + d + " " + k, () -> x.out(d, at));
            if (k <= 4) {
                add("elected " + d + " " + k, () -> x.elected(d, at));
            }
        }
        add("margin " + d, () -> x.margin(d));
        for (int k = 0; k < x.many(0); k++) {
            int c = k;
            add("firsts " + d + " " + k, () -> x.firsts(d, c));
            add("points " + d + " " + k, () -> x.points(d, c));
        }
    }

    private void askPairs(BallotLoom x) {
        for (int d = 0; d < x.many(2); d++) {
            askPairsOf(x, d);
        }
    }

    private void askPairsOf(BallotLoom x, int d) {
        int candidates = x.many(0);
        for (int k = 0; k < candidates * candidates; k++) {
            int one = k / candidates;
            int other = k % candidates;
            if (one != other) {
                add("pair " + d + " " + one + " " + other, () -> x.pair(d, one, other, false));
                add("path " + d + " " + one + " " + other, () -> x.pair(d, one, other, true));
            }
        }
    }

    private void askParties(BallotLoom x) {
        for (int k = 0; k < 4; k++) {
            int p = k;
            for (int w = 0; w <= 4; w++) {
                int what = w;
                add("ofParty " + k + " " + w, () -> x.ofParty(p, what));
            }
            for (int q = 0; q < 4; q++) {
                int other = q;
                add("gap " + k + " " + q, () -> x.gap(p, other));
            }
        }
        for (int house : HOUSES) {
            for (int rule = 0; rule <= 2; rule++) {
                askHouse(x, house, rule);
            }
        }
    }

    private void askHouse(BallotLoom x, int house, int rule) {
        String at = " " + house + " " + rule;
        for (int k = 0; k < 4; k++) {
            int p = k;
            add("share " + k + at, () -> x.share(p, house, rule));
            add("swings " + k + at, () -> x.swings(p, house, rule));
        }
        add("overhang" + at, () -> x.overhang(house, rule));
        add("coalition" + at, () -> x.coalition(house, rule));
    }

    private void askWhatWouldBe(BallotLoom x) {
        for (int k = 0; k < x.many(3); k++) {
            int stack = k;
            for (int w = 0; w <= 3; w++) {
                int way = w;
                add("lie " + k + " " + w, () -> x.lie(stack, way));
                add("wouldWin " + k + " " + w, () -> x.wouldWin(stack, 12, way));
            }
        }
        add("digest", () -> x.digest());
    }

    /** What does not show in an answer yet would show in these. */
    private void tellOn(BallotLoom x) {
        add("knock", () -> x.knock());
        add("seal", () -> x.seal(false));
        add("withdraw", () -> x.withdraw(0));
        add("candidate", () -> x.candidate(2));
        add("district", () -> x.district(2));
        add("cast", () -> x.cast(0, 1, 7));
        add("recount", () -> x.recount(0, 9));
        add("move", () -> x.move(0, 0));
        add("threshold", () -> x.threshold(9));
        add("digest then", () -> x.digest());
    }
}
