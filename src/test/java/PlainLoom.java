import java.math.BigInteger;
import java.util.ArrayList;
import java.util.Collections;
import java.util.List;
import java.util.TreeSet;

/**
 * The document told a second time, as slowly and as plainly as can be: lists are made anew for each question,
 * paths are walked, fractions compared crosswise, and what would be is tried out on a copy.
 */
final class PlainLoom {
    static final int NONE = -1;

    static final class Pile {
        int district;
        int ranks;
        int count;
        boolean spoiled;
        /** A list that is lied about; null, if it is read from the ranks. */
        List<Integer> told;
    }

    final List<Integer> partyOf = new ArrayList<>();
    final TreeSet<Integer> withdrawn = new TreeSet<>();
    final List<Integer> seatsOf = new ArrayList<>();
    final List<Pile> piles = new ArrayList<>();
    int percent;
    boolean sealed;
    int refused;

    private PlainLoom copy() {
        PlainLoom other = new PlainLoom();
        other.partyOf.addAll(partyOf);
        other.withdrawn.addAll(withdrawn);
        other.seatsOf.addAll(seatsOf);
        for (Pile pile : piles) {
            Pile like = new Pile();
            like.district = pile.district;
            like.ranks = pile.ranks;
            like.count = pile.count;
            like.spoiled = pile.spoiled;
            like.told = pile.told;
            other.piles.add(like);
        }
        other.percent = percent;
        return other;
    }

    private static void index(boolean isFine) {
        if (!isFine) {
            throw new IndexOutOfBoundsException();
        }
    }

    private static void argument(boolean isFine) {
        if (!isFine) {
            throw new IllegalArgumentException();
        }
    }

    private static void state(boolean isFine) {
        if (!isFine) {
            throw new IllegalStateException();
        }
    }

    private static boolean within(int value, int least, int most) {
        return least <= value && value <= most;
    }

    private void needCandidate(int c) {
        index(within(c, 0, partyOf.size() - 1));
    }

    private void needDistrict(int d) {
        index(within(d, 0, seatsOf.size() - 1));
    }

    private void needStack(int s) {
        index(within(s, 0, piles.size() - 1));
    }

    // ---- what is told

    int candidate(int party) {
        argument(within(party, 0, 3));
        state(partyOf.size() < 6);
        partyOf.add(party);
        return partyOf.size() - 1;
    }

    int withdraw(int candidate) {
        needCandidate(candidate);
        state(!withdrawn.contains(candidate));
        withdrawn.add(candidate);
        return standing().size();
    }

    int district(int seats) {
        argument(within(seats, 1, 5));
        state(seatsOf.size() < 4);
        seatsOf.add(seats);
        return seatsOf.size() - 1;
    }

    int cast(int district, int ranks, int count) {
        needDistrict(district);
        argument(within(ranks, 1, 999999) && within(count, 1, 500));
        state(!sealed && piles.size() < 24);
        Pile pile = new Pile();
        pile.district = district;
        pile.ranks = ranks;
        pile.count = count;
        pile.spoiled = spoils(ranks);
        piles.add(pile);
        return piles.size() - 1;
    }

    int recount(int stack, int count) {
        needStack(stack);
        argument(within(count, 1, 500));
        state(!sealed);
        int before = piles.get(stack).count;
        piles.get(stack).count = count;
        return before;
    }

    int move(int stack, int district) {
        needStack(stack);
        needDistrict(district);
        state(!sealed);
        int before = piles.get(stack).district;
        piles.get(stack).district = district;
        return before;
    }

    int threshold(int newPercent) {
        argument(within(newPercent, 0, 20));
        percent = newPercent;
        int set = 0;
        for (int p = 0; p < 4; p++) {
            set += barred(p) ? 1 << p : 0;
        }
        return set;
    }

    boolean seal(boolean is) {
        boolean was = sealed;
        sealed = is;
        return was;
    }

    int knock() {
        return ++refused;
    }

    // ---- the terms

    private List<Integer> standing() {
        List<Integer> all = new ArrayList<>();
        for (int c = 0; c < partyOf.size(); c++) {
            if (!withdrawn.contains(c)) {
                all.add(c);
            }
        }
        return all;
    }

    private boolean spoils(int ranks) {
        String digits = String.valueOf(ranks);
        for (int i = 0; i < digits.length(); i++) {
            int digit = digits.charAt(i) - '0';
            if (digit == 0 || digit > partyOf.size() || digits.indexOf(digits.charAt(i)) != i) {
                return true;
            }
        }
        return false;
    }

    private List<Integer> list(Pile pile) {
        if (pile.told != null) {
            return pile.told;
        }
        List<Integer> list = new ArrayList<>();
        if (!pile.spoiled) {
            String digits = new StringBuilder(String.valueOf(pile.ranks)).reverse().toString();
            for (char digit : digits.toCharArray()) {
                list.add(digit - '1');
            }
            list.removeAll(withdrawn);
        }
        return list;
    }

    private List<Pile> good(int district) {
        List<Pile> all = new ArrayList<>();
        for (Pile pile : piles) {
            if (pile.district == district && !pile.spoiled) {
                all.add(pile);
            }
        }
        return all;
    }

    private int firstsOf(int district, int candidate) {
        int sum = 0;
        for (Pile pile : good(district)) {
            sum += list(pile).indexOf(candidate) == 0 ? pile.count : 0;
        }
        return sum;
    }

    private double pointsOf(int district, int candidate) {
        double sum = 0.0;
        int n = standing().size();
        for (Pile pile : good(district)) {
            int place = list(pile).indexOf(candidate);
            List<Integer> unlisted = standing();
            unlisted.removeAll(list(pile));
            sum += place >= 0 ? pile.count * (n - 1 - place) : pile.count * (unlisted.size() - 1) / 2.0;
        }
        return sum;
    }

    private int beatsOf(int district, int one, int other) {
        int sum = 0;
        for (Pile pile : good(district)) {
            int place = list(pile).indexOf(one);
            int places = list(pile).indexOf(other);
            sum += place >= 0 && (places < 0 || places > place) ? pile.count : 0;
        }
        return sum;
    }

    private int step(int district, int one, int other) {
        int there = beatsOf(district, one, other);
        return there > beatsOf(district, other, one) ? there : 0;
    }

    /** Walks every row of steps that comes by nobody twice. */
    private int pathOf(int district, int one, int other, List<Integer> been) {
        int widest = step(district, one, other);
        List<Integer> now = new ArrayList<>(been);
        now.add(one);
        for (int by : standing()) {
            if (by != other && !now.contains(by)) {
                widest = Math.max(widest, Math.min(step(district, one, by), pathOf(district, by, other, now)));
            }
        }
        return widest;
    }

    private int pathOf(int district, int one, int other) {
        return pathOf(district, one, other, new ArrayList<>());
    }

    private int winnerOf(int district, int way) {
        List<Integer> all = standing();
        if (all.isEmpty()) {
            return NONE;
        }
        if (way == 0) {
            all.sort((a, b) -> firstsOf(district, a) != firstsOf(district, b)
                    ? Integer.compare(firstsOf(district, b), firstsOf(district, a)) : a - b);
            return all.get(0);
        }
        if (way == 1) {
            all.sort((a, b) -> pointsOf(district, a) != pointsOf(district, b)
                    ? Double.compare(pointsOf(district, b), pointsOf(district, a)) : a - b);
            return all.get(0);
        }
        if (way == 2) {
            for (int c : all) {
                boolean isFine = true;
                for (int other : all) {
                    isFine &= other == c || pathOf(district, c, other) >= pathOf(district, other, c);
                }
                if (isFine) {
                    return c;
                }
            }
            return NONE;
        }
        return rounds(district, new ArrayList<>());
    }

    private static int firstIn(List<Integer> list, List<Integer> in) {
        for (int c : list) {
            if (in.contains(c)) {
                return c;
            }
        }
        return NONE;
    }

    /** Adds those that go out, and returns the winner. */
    private int rounds(int district, List<Integer> outs) {
        List<Integer> in = standing();
        while (!in.isEmpty()) {
            int[] with = new int[6];
            int all = 0;
            for (Pile pile : good(district)) {
                int c = firstIn(list(pile), in);
                if (c != NONE) {
                    with[c] += pile.count;
                    all += pile.count;
                }
            }
            for (int c : in) {
                if (in.size() == 1 || with[c] > all - with[c]) {
                    return c;
                }
            }
            List<Integer> order = new ArrayList<>(in);
            order.sort((a, b) -> {
                if (with[a] != with[b]) {
                    return with[a] - with[b];
                }
                int byPoints = Double.compare(pointsOf(district, a), pointsOf(district, b));
                return byPoints != 0 ? byPoints : b - a;
            });
            outs.add(order.get(0));
            in.remove(order.get(0));
        }
        return NONE;
    }

    private List<Integer> transfer(int district, double[] worths) {
        List<Integer> electedOnes = new ArrayList<>();
        int counts = 0;
        for (Pile pile : good(district)) {
            worths[piles.indexOf(pile)] = pile.count;
            counts += list(pile).isEmpty() ? 0 : pile.count;
        }
        int seats = seatsOf.get(district);
        int quota = counts / (seats + 1) + 1;
        List<Integer> in = standing();
        while (electedOnes.size() < seats && !in.isEmpty()) {
            double[] held = new double[6];
            for (Pile pile : good(district)) {
                int c = firstIn(list(pile), in);
                if (c != NONE) {
                    held[c] += worths[piles.indexOf(pile)];
                }
            }
            List<Integer> order = new ArrayList<>(in);
            order.sort((a, b) -> held[a] != held[b] ? Double.compare(held[b], held[a]) : a - b);
            int top = order.get(0);
            if (in.size() > seats - electedOnes.size() && held[top] < quota) {
                in.remove(order.get(order.size() - 1));
                continue;
            }
            for (Pile pile : good(district)) {
                if (firstIn(list(pile), in) == top) {
                    int k = piles.indexOf(pile);
                    worths[k] = held[top] < quota ? 0.0
                            : Math.floor(1024.0 * worths[k] * (held[top] - quota) / held[top]) / 1024.0;
                }
            }
            electedOnes.add(top);
            in.remove(Integer.valueOf(top));
        }
        return electedOnes;
    }

    private int votesIn(int district, int party) {
        int sum = 0;
        for (int c = 0; c < partyOf.size(); c++) {
            sum += partyOf.get(c) == party ? firstsOf(district, c) : 0;
        }
        return sum;
    }

    private int votes(int party) {
        int sum = 0;
        for (int d = 0; d < seatsOf.size(); d++) {
            sum += votesIn(d, party);
        }
        return sum;
    }

    private int allVotes() {
        return votes(0) + votes(1) + votes(2) + votes(3);
    }

    private boolean barred(int party) {
        return 100 * votes(party) < percent * allVotes();
    }

    private int direct(int party) {
        int sum = 0;
        for (int d = 0; d < seatsOf.size(); d++) {
            int wins = winnerOf(d, 0);
            sum += wins != NONE && firstsOf(d, wins) > 0 && partyOf.get(wins) == party ? 1 : 0;
        }
        return sum;
    }

    private int wasted(int party) {
        int sum = 0;
        for (int d = 0; d < seatsOf.size(); d++) {
            int wins = winnerOf(d, 0);
            if (wins == NONE || firstsOf(d, wins) == 0) {
                continue;
            }
            int all = votesIn(d, 0) + votesIn(d, 1) + votesIn(d, 2) + votesIn(d, 3);
            int own = votesIn(d, party);
            sum += partyOf.get(wins) != party ? own : Math.max(0, own - (all / 2 + 1));
        }
        return sum;
    }

    private int[] house(int n, int rule) {
        int[] seats = new int[4];
        List<Integer> in = new ArrayList<>();
        int all = 0;
        for (int p = 0; p < 4; p++) {
            if (!barred(p) && votes(p) > 0) {
                in.add(p);
                all += votes(p);
            }
        }
        if (in.isEmpty()) {
            return seats;
        }
        if (rule == 2) {
            List<Integer> order = new ArrayList<>(in);
            int whole = all;
            order.sort((a, b) -> {
                int byRest = n * votes(b) % whole - n * votes(a) % whole;
                return byRest != 0 ? byRest : votes(a) != votes(b) ? votes(b) - votes(a) : a - b;
            });
            int left = n;
            for (int p : in) {
                seats[p] = BigInteger.valueOf(n).multiply(BigInteger.valueOf(votes(p)))
                        .divide(BigInteger.valueOf(all)).intValue();
                left -= seats[p];
            }
            for (int k = 0; k < left; k++) {
                seats[order.get(k)]++;
            }
            return seats;
        }
        for (int k = 0; k < n; k++) {
            List<Integer> order = new ArrayList<>(in);
            order.sort((a, b) -> {
                long there = (long) votes(b) * (1 + (rule + 1) * seats[a]);
                long here = (long) votes(a) * (1 + (rule + 1) * seats[b]);
                return here != there ? Long.compare(there, here)
                        : votes(a) != votes(b) ? votes(b) - votes(a) : a - b;
            });
            seats[order.get(0)]++;
        }
        return seats;
    }

    private static boolean ruling(int set, int[] seats, int n) {
        int sum = 0;
        for (int p = 0; p < 4; p++) {
            sum += (set >> p) % 2 == 1 ? seats[p] : 0;
        }
        return sum > n - sum;
    }

    // ---- what is asked

    int ofStack(int stack, int what) {
        needStack(stack);
        argument(within(what, 0, 5));
        Pile pile = piles.get(stack);
        List<Integer> list = list(pile);
        int[] all = {pile.district, pile.ranks, pile.count, pile.spoiled ? 1 : 0, list.size(),
            list.isEmpty() ? NONE : list.get(0)};
        return all[what];
    }

    int firsts(int district, int candidate) {
        needDistrict(district);
        needCandidate(candidate);
        return firstsOf(district, candidate);
    }

    double points(int district, int candidate) {
        needDistrict(district);
        needCandidate(candidate);
        return withdrawn.contains(candidate) ? -1.0 : pointsOf(district, candidate);
    }

    int pair(int district, int one, int other, boolean isPath) {
        needDistrict(district);
        needCandidate(one);
        needCandidate(other);
        argument(one != other);
        if (withdrawn.contains(one) || withdrawn.contains(other)) {
            return 0;
        }
        return isPath ? pathOf(district, one, other) : beatsOf(district, one, other);
    }

    int winner(int district, int way) {
        needDistrict(district);
        argument(within(way, 0, 3));
        return winnerOf(district, way);
    }

    int out(int district, int round) {
        needDistrict(district);
        argument(within(round, 0, 5));
        List<Integer> outs = new ArrayList<>();
        rounds(district, outs);
        return round < outs.size() ? outs.get(round) : NONE;
    }

    int elected(int district, int seat) {
        needDistrict(district);
        argument(within(seat, 0, 4));
        List<Integer> all = transfer(district, new double[24]);
        return seat < all.size() ? all.get(seat) : NONE;
    }

    double worth(int stack) {
        needStack(stack);
        double[] worths = new double[24];
        transfer(piles.get(stack).district, worths);
        return worths[stack];
    }

    int ofParty(int party, int what) {
        index(within(party, 0, 3));
        argument(within(what, 0, 4));
        if (what == 1) {
            int sum = 0;
            for (int c : standing()) {
                sum += partyOf.get(c) == party ? 1 : 0;
            }
            return sum;
        }
        return what == 0 ? votes(party) : what == 2 ? direct(party) : what == 3 ? wasted(party)
                : barred(party) ? 1 : 0;
    }

    int share(int party, int house, int rule) {
        index(within(party, 0, 3));
        argument(within(house, 1, 60) && within(rule, 0, 2));
        return house(house, rule)[party];
    }

    int overhang(int house, int rule) {
        argument(within(house, 1, 60) && within(rule, 0, 2));
        int sum = 0;
        for (int p = 0; p < 4; p++) {
            int above = direct(p) - house(house, rule)[p];
            sum += above > 0 ? above : 0;
        }
        return sum;
    }

    int swings(int party, int house, int rule) {
        index(within(party, 0, 3));
        argument(within(house, 1, 60) && within(rule, 0, 2));
        int[] seats = house(house, rule);
        int sum = 0;
        for (int set = 0; set < 16; set++) {
            boolean isWithout = (set >> party) % 2 == 0;
            sum += isWithout && !ruling(set, seats, house) && ruling(set + (1 << party), seats, house) ? 1 : 0;
        }
        return sum;
    }

    int coalition(int house, int rule) {
        argument(within(house, 1, 60) && within(rule, 0, 2));
        int[] seats = house(house, rule);
        List<int[]> all = new ArrayList<>();
        for (int set = 0; set < 16; set++) {
            if (ruling(set, seats, house)) {
                int together = 0;
                int parties = 0;
                for (int p = 0; p < 4; p++) {
                    together += (set >> p) % 2 * seats[p];
                    parties += (set >> p) % 2;
                }
                all.add(new int[] {parties, together, set});
            }
        }
        if (all.isEmpty()) {
            return 0;
        }
        return Collections.min(all, (a, b) -> a[0] != b[0] ? a[0] - b[0] : a[1] != b[1] ? a[1] - b[1] : a[2] - b[2])[2];
    }

    double gap(int one, int other) {
        index(within(one, 0, 3) && within(other, 0, 3));
        return allVotes() == 0 ? 0.0 : ((double) wasted(one) - (double) wasted(other)) / (double) allVotes();
    }

    int many(int what) {
        argument(within(what, 0, 9));
        int spoiled = 0;
        int counts = 0;
        int listed = 0;
        for (Pile pile : piles) {
            spoiled += pile.spoiled ? 1 : 0;
            counts += pile.count;
            listed += list(pile).isEmpty() ? 0 : pile.count;
        }
        int[] all = {partyOf.size(), standing().size(), seatsOf.size(), piles.size(), spoiled, counts, listed,
            percent, sealed ? 1 : 0, refused};
        return all[what];
    }

    // ---- what would be

    /** Tries each number of ballots for each other one. */
    int margin(int district) {
        needDistrict(district);
        int wins = winnerOf(district, 0);
        if (standing().size() < 2 || firstsOf(district, wins) == 0) {
            return NONE;
        }
        int[] firsts = new int[6];
        for (int c : standing()) {
            firsts[c] = firstsOf(district, c);
        }
        for (int number = 0; number <= firsts[wins]; number++) {
            for (int other : standing()) {
                int[] then = firsts.clone();
                then[wins] -= number;
                then[other] += number;
                int best = standing().get(0);
                for (int c : standing()) {
                    best = then[c] > then[best] ? c : best;
                }
                if (other != wins && best == other) {
                    return number;
                }
            }
        }
        return NONE;
    }

    int wouldWin(int stack, int ranks, int way) {
        needStack(stack);
        argument(within(ranks, 1, 999999) && within(way, 0, 3));
        PlainLoom tried = copy();
        Pile pile = tried.piles.get(stack);
        pile.ranks = ranks;
        pile.spoiled = spoils(ranks);
        return tried.winnerOf(pile.district, way);
    }

    int lie(int stack, int way) {
        needStack(stack);
        argument(within(way, 0, 3));
        Pile honest = piles.get(stack);
        List<Integer> list = list(honest);
        int best = NONE;
        int bestPlace = placeIn(list, winnerOf(honest.district, way));
        for (int c : list) {
            PlainLoom tried = copy();
            List<Integer> lied = new ArrayList<>(list);
            lied.remove(Integer.valueOf(c));
            lied.add(0, c);
            tried.piles.get(stack).told = lied;
            int place = placeIn(list, tried.winnerOf(honest.district, way));
            if (place < bestPlace) {
                best = c;
                bestPlace = place;
            }
        }
        return best;
    }

    private static int placeIn(List<Integer> list, int candidate) {
        return list.contains(candidate) ? list.indexOf(candidate) : list.size();
    }

    long digest() {
        List<Long> all = new ArrayList<>();
        for (int what = 0; what <= 9; what++) {
            all.add((long) many(what));
        }
        for (int s = 0; s < piles.size(); s++) {
            for (int what = 0; what <= 5; what++) {
                all.add((long) ofStack(s, what));
            }
            all.add((long) (1024 * worth(s)));
        }
        for (int d = 0; d < seatsOf.size(); d++) {
            for (int way = 0; way <= 3; way++) {
                all.add((long) winner(d, way));
            }
            for (int round = 0; round <= 5; round++) {
                all.add((long) out(d, round));
            }
            for (int seat = 0; seat <= 4; seat++) {
                all.add((long) elected(d, seat));
            }
            all.add((long) margin(d));
            for (int c = 0; c < partyOf.size(); c++) {
                all.add((long) firsts(d, c));
                all.add((long) (2 * points(d, c)));
            }
        }
        for (int p = 0; p < 4; p++) {
            for (int what = 0; what <= 4; what++) {
                all.add((long) ofParty(p, what));
            }
            for (int rule = 0; rule <= 2; rule++) {
                all.add((long) share(p, 20, rule));
                all.add((long) swings(p, 20, rule));
            }
        }
        for (int rule = 0; rule <= 2; rule++) {
            all.add((long) coalition(20, rule));
        }
        BigInteger d = BigInteger.valueOf(58308);
        for (long v : all) {
            d = d.multiply(BigInteger.valueOf(31)).add(BigInteger.valueOf(v));
        }
        return d.longValue();
    }
}
