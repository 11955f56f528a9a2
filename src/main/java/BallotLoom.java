/** One heap of ballots, counted in many ways. */
public final class BallotLoom {
    private static final int NONE = -1;

    private static final int CANDIDATES = 6;
    private static final int DISTRICTS = 4;
    private static final int STACKS = 24;
    private static final int PARTIES = 4;
    private static final int SETS = 16;

    private static final int MOST_SEATS = 5;
    private static final int MOST_COUNT = 500;
    private static final int MOST_RANKS = 999999;
    private static final int MOST_PERCENT = 20;
    private static final int MOST_HOUSE = 60;

    private static final int WAY_FIRSTS = 0;
    private static final int WAY_POINTS = 1;
    private static final int WAY_PATHS = 2;
    private static final int WAY_ROUNDS = 3;

    private static final int RULE_DIVISORS = 0;
    private static final int RULE_ODD_DIVISORS = 1;
    private static final int RULE_REMAINDERS = 2;

    private static final long DIGEST_START = 58308;
    private static final int DIGEST_HOUSE = 20;
    private static final int WORTH_PARTS = 1024;

    private final Box box = new Box();
    private final Poll poll = new Poll();
    private final Transfers transfers = new Transfers();
    private final Parties parties = new Parties();
    /** Stands in for a stack while it is asked what would be. */
    private final Stack spare = new Stack();

    /** Creates an open box. */
    public BallotLoom() {
    }

    // ---- what is told

    /** Tells a candidate of that party; returns its number. */
    public int candidate(int party) throws IllegalArgumentException, IllegalStateException {
        if (!isParty(party)) {
            throw new IllegalArgumentException("party is not 0 to 3");
        }
        if (box.candidates >= CANDIDATES) {
            throw new IllegalStateException("there are 6 candidates");
        }
        return box.addCandidate(party);
    }

    /** A candidate withdraws, for good; returns how many stand then. */
    public int withdraw(int candidate) throws IndexOutOfBoundsException, IllegalStateException {
        checkCandidate(candidate);
        if (!box.stands[candidate]) {
            throw new IllegalStateException("the candidate is withdrawn");
        }
        box.takeOff(candidate);
        return box.standing;
    }

    /** Tells a district with so many seats; returns its number. */
    public int district(int seats) throws IllegalArgumentException, IllegalStateException {
        if (seats < 1 || seats > MOST_SEATS) {
            throw new IllegalArgumentException("seats is not 1 to 5");
        }
        if (box.districts >= DISTRICTS) {
            throw new IllegalStateException("there are 4 districts");
        }
        return box.addDistrict(seats);
    }

    /** Casts a stack of like ballots; returns its number. */
    public int cast(int district, int ranks, int count)
            throws IndexOutOfBoundsException, IllegalArgumentException, IllegalStateException {
        checkDistrict(district);
        checkRanks(ranks);
        checkCount(count);
        checkOpen();
        if (box.cast >= STACKS) {
            throw new IllegalStateException("there are 24 stacks");
        }
        return box.addStack(district, ranks, count);
    }

    /** Gives a stack another count; returns that before. */
    public int recount(int stack, int count)
            throws IndexOutOfBoundsException, IllegalArgumentException, IllegalStateException {
        checkStack(stack);
        checkCount(count);
        checkOpen();
        Stack recounted = box.stacks[stack];
        int before = recounted.count;
        recounted.count = count;
        return before;
    }

    /** Moves a stack to a district; returns that before. */
    public int move(int stack, int district) throws IndexOutOfBoundsException, IllegalStateException {
        checkStack(stack);
        checkDistrict(district);
        checkOpen();
        Stack moved = box.stacks[stack];
        int before = moved.district;
        moved.district = district;
        return before;
    }

    /** Tells the threshold; returns the set of parties that are barred then. */
    public int threshold(int percent) throws IllegalArgumentException {
        if (percent < 0 || percent > MOST_PERCENT) {
            throw new IllegalArgumentException("percent is not 0 to 20");
        }
        box.percent = percent;
        parties.countVotes(box);
        return parties.barredSet();
    }

    /** Seals the box, or opens it; returns whether it was sealed. */
    public boolean seal(boolean is) {
        boolean was = box.isSealed;
        box.isSealed = is;
        return was;
    }

    /** Knocks; returns how many were refused ever, with this. */
    public int knock() {
        box.refused++;
        return box.refused;
    }

    // ---- what is asked

    /** Returns a stack's district, ranks, count, whether it is spoiled, its list's length or first one. */
    public int ofStack(int stack, int what) throws IndexOutOfBoundsException, IllegalArgumentException {
        checkStack(stack);
        checkWhat(what, 5);
        return box.stacks[stack].figure(what);
    }

    /** Returns a candidate's first choices in a district. */
    public int firsts(int district, int candidate) throws IndexOutOfBoundsException {
        checkDistrict(district);
        checkCandidate(candidate);
        poll.countFirsts(box, district);
        return poll.firsts[candidate];
    }

    /** Returns a candidate's points in a district; -1.0, if it is withdrawn. */
    public double points(int district, int candidate) throws IndexOutOfBoundsException {
        checkDistrict(district);
        checkCandidate(candidate);
        poll.countPoints(box, district);
        return poll.points[candidate];
    }

    /** Returns the path from one candidate to another, or how often it beats that one. */
    public int pair(int district, int one, int other, boolean isPath)
            throws IndexOutOfBoundsException, IllegalArgumentException {
        checkDistrict(district);
        checkCandidate(one);
        checkCandidate(other);
        if (one == other) {
            throw new IllegalArgumentException("both are the same");
        }
        poll.countPairs(box, district);
        return isPath ? poll.paths[one][other] : poll.beats[one][other];
    }

    /** Returns who wins a district by a way; NONE, if nobody does. */
    public int winner(int district, int way) throws IndexOutOfBoundsException, IllegalArgumentException {
        checkDistrict(district);
        checkWay(way);
        return poll.winnerBy(box, district, way);
    }

    /** Returns who goes out in that round; NONE, if there is no such round. */
    public int out(int district, int round) throws IndexOutOfBoundsException, IllegalArgumentException {
        checkDistrict(district);
        if (round < 0 || round >= CANDIDATES) {
            throw new IllegalArgumentException("round is not 0 to 5");
        }
        poll.goRounds(box, district);
        return poll.goneOut[round];
    }

    /** Returns who gets that seat of a district by transfers; NONE, if nobody does. */
    public int elected(int district, int seat) throws IndexOutOfBoundsException, IllegalArgumentException {
        checkDistrict(district);
        if (seat < 0 || seat >= MOST_SEATS) {
            throw new IllegalArgumentException("seat is not 0 to 4");
        }
        transfers.fillSeats(box, district);
        return transfers.chosen[seat];
    }

    /** Returns what a stack is worth, as all seats of its district have gone by transfers. */
    public double worth(int stack) throws IndexOutOfBoundsException {
        checkStack(stack);
        Stack asked = box.stacks[stack];
        transfers.fillSeats(box, asked.district);
        return asked.value;
    }

    /** Returns a party's votes, standing candidates, direct seats, wasted votes, or whether it is barred. */
    public int ofParty(int party, int what) throws IndexOutOfBoundsException, IllegalArgumentException {
        checkParty(party);
        checkWhat(what, 4);
        parties.countVotes(box);
        parties.countDistricts(box, poll);
        return parties.figure(party, what);
    }

    /** Returns a party's seats in a house that is shared by a rule. */
    public int share(int party, int house, int rule) throws IndexOutOfBoundsException, IllegalArgumentException {
        checkParty(party);
        checkHouse(house);
        checkRule(rule);
        shareHouse(house, rule);
        return parties.seats[party];
    }

    /** Returns by how many direct seats parties are above their shares of a house. */
    public int overhang(int house, int rule) throws IllegalArgumentException {
        checkHouse(house);
        checkRule(rule);
        shareHouse(house, rule);
        parties.countDistricts(box, poll);
        return parties.seatsAbove();
    }

    /** Returns how many sets of the other parties rule a house with this one only. */
    public int swings(int party, int house, int rule) throws IndexOutOfBoundsException, IllegalArgumentException {
        checkParty(party);
        checkHouse(house);
        checkRule(rule);
        shareHouse(house, rule);
        return parties.swingsOf(party, house);
    }

    /** Returns the least set of parties that rules a house; 0 without any. */
    public int coalition(int house, int rule) throws IllegalArgumentException {
        checkHouse(house);
        checkRule(rule);
        shareHouse(house, rule);
        return parties.leastRulers(house);
    }

    /** Returns by how much more of all votes one party wastes than another; 0.0 without votes. */
    public double gap(int one, int other) throws IndexOutOfBoundsException {
        checkParty(one);
        checkParty(other);
        parties.countVotes(box);
        parties.countDistricts(box, poll);
        if (parties.allVotes == 0) {
            return 0.0;
        }
        double more = (double) parties.wasted[one] - (double) parties.wasted[other];
        return more / (double) parties.allVotes;
    }

    /** Returns how many there are of what. */
    public int many(int what) throws IllegalArgumentException {
        checkWhat(what, 9);
        return box.figure(what);
    }

    // ---- what would be (nothing is changed)

    /** Returns how few ballots of the winner by first choices would make another one win; NONE without two. */
    public int margin(int district) throws IndexOutOfBoundsException {
        checkDistrict(district);
        return poll.leastShift(box, district);
    }

    /** Returns who would win, if that stack was cast with these ranks now. */
    public int wouldWin(int stack, int ranks, int way) throws IndexOutOfBoundsException, IllegalArgumentException {
        checkStack(stack);
        checkRanks(ranks);
        checkWay(way);
        Stack real = box.stacks[stack];
        spare.district = real.district;
        spare.count = real.count;
        spare.setRanks(ranks, box);
        box.stacks[stack] = spare;
        int wins = poll.winnerBy(box, real.district, way);
        box.stacks[stack] = real;
        return wins;
    }

    /** Returns which one of its list that stack should put first to fare better; NONE, if that never helps. */
    public int lie(int stack, int way) throws IndexOutOfBoundsException, IllegalArgumentException {
        checkStack(stack);
        checkWay(way);
        Stack real = box.stacks[stack];
        int best = NONE;
        int bestPlace = real.placeOf(poll.winnerBy(box, real.district, way));
        spare.district = real.district;
        spare.count = real.count;
        box.stacks[stack] = spare;
        for (int place = 0; place < real.length; place++) {
            spare.setListWithFirst(real, place);
            int winnersPlace = real.placeOf(poll.winnerBy(box, real.district, way));
            if (winnersPlace < bestPlace) {
                best = real.list[place];
                bestPlace = winnersPlace;
            }
        }
        box.stacks[stack] = real;
        return best;
    }

    /** Computes a checksum over all that can be asked. */
    public long digest() {
        long sum = DIGEST_START;
        for (int what = 0; what <= 9; what++) {
            sum = mix(sum, box.figure(what));
        }
        for (int district = 0; district < box.districts; district++) {
            transfers.fillSeats(box, district);
        }
        for (int stack = 0; stack < box.cast; stack++) {
            sum = mixStack(sum, box.stacks[stack]);
        }
        for (int district = 0; district < box.districts; district++) {
            sum = mixDistrict(sum, district);
        }
        parties.countVotes(box);
        parties.countDistricts(box, poll);
        for (int party = 0; party < PARTIES; party++) {
            sum = mixParty(sum, party);
        }
        for (int rule = RULE_DIVISORS; rule <= RULE_REMAINDERS; rule++) {
            parties.shareSeats(DIGEST_HOUSE, rule);
            sum = mix(sum, parties.leastRulers(DIGEST_HOUSE));
        }
        return sum;
    }

    private static long mix(long sum, long value) {
        return sum * 31 + value;
    }

    private static long mixStack(long sum, Stack stack) {
        long mixed = sum;
        for (int what = 0; what <= 5; what++) {
            mixed = mix(mixed, stack.figure(what));
        }
        return mix(mixed, (long) (WORTH_PARTS * stack.value));
    }

    private long mixDistrict(long sum, int district) {
        long mixed = sum;
        for (int way = WAY_FIRSTS; way <= WAY_ROUNDS; way++) {
            mixed = mix(mixed, poll.winnerBy(box, district, way));
        }
        poll.goRounds(box, district);
        for (int round = 0; round < CANDIDATES; round++) {
            mixed = mix(mixed, poll.goneOut[round]);
        }
        transfers.fillSeats(box, district);
        for (int seat = 0; seat < MOST_SEATS; seat++) {
            mixed = mix(mixed, transfers.chosen[seat]);
        }
        mixed = mix(mixed, poll.leastShift(box, district));
        poll.countFirsts(box, district);
        poll.countPoints(box, district);
        for (int candidate = 0; candidate < box.candidates; candidate++) {
            mixed = mix(mixed, poll.firsts[candidate]);
            mixed = mix(mixed, (long) (2.0 * poll.points[candidate]));
        }
        return mixed;
    }

    private long mixParty(long sum, int party) {
        long mixed = sum;
        for (int what = 0; what <= 4; what++) {
            mixed = mix(mixed, parties.figure(party, what));
        }
        for (int rule = RULE_DIVISORS; rule <= RULE_REMAINDERS; rule++) {
            parties.shareSeats(DIGEST_HOUSE, rule);
            mixed = mix(mixed, parties.seats[party]);
            mixed = mix(mixed, parties.swingsOf(party, DIGEST_HOUSE));
        }
        return mixed;
    }

    private void shareHouse(int house, int rule) {
        parties.countVotes(box);
        parties.shareSeats(house, rule);
    }

    private static boolean isParty(int party) {
        return party >= 0 && party < PARTIES;
    }

    private void checkCandidate(int candidate) {
        if (candidate < 0 || candidate >= box.candidates) {
            throw new IndexOutOfBoundsException("there is no such candidate");
        }
    }

    private void checkDistrict(int district) {
        if (district < 0 || district >= box.districts) {
            throw new IndexOutOfBoundsException("there is no such district");
        }
    }

    private void checkStack(int stack) {
        if (stack < 0 || stack >= box.cast) {
            throw new IndexOutOfBoundsException("there is no such stack");
        }
    }

    private static void checkParty(int party) {
        if (!isParty(party)) {
            throw new IndexOutOfBoundsException("party is not 0 to 3");
        }
    }

    private static void checkRanks(int ranks) {
        if (ranks < 1 || ranks > MOST_RANKS) {
            throw new IllegalArgumentException("ranks is not 1 to 999999");
        }
    }

    private static void checkCount(int count) {
        if (count < 1 || count > MOST_COUNT) {
            throw new IllegalArgumentException("count is not 1 to 500");
        }
    }

    private static void checkWhat(int what, int last) {
        if (what < 0 || what > last) {
            throw new IllegalArgumentException("there is no such what");
        }
    }

    private static void checkWay(int way) {
        if (way < WAY_FIRSTS || way > WAY_ROUNDS) {
            throw new IllegalArgumentException("way is not 0 to 3");
        }
    }

    private static void checkHouse(int house) {
        if (house < 1 || house > MOST_HOUSE) {
            throw new IllegalArgumentException("house is not 1 to 60");
        }
    }

    private static void checkRule(int rule) {
        if (rule < RULE_DIVISORS || rule > RULE_REMAINDERS) {
            throw new IllegalArgumentException("rule is not 0 to 2");
        }
    }

    private void checkOpen() {
        if (box.isSealed) {
            throw new IllegalStateException("the box is sealed");
        }
    }

    /** A stack of like ballots. */
    private static final class Stack {
        int district;
        int ranks;
        int count;
        boolean isSpoiled;
        /** Those of its ranks that stand, in list[0] to list[length - 1]; none, if it is spoiled. */
        final int[] list = new int[CANDIDATES];
        int length;
        /** What the transfers leave of its count. */
        double value;

        /** Spoiled is judged here alone: a candidate that is told later does not mend the stack. */
        void setRanks(int newRanks, Box box) {
            ranks = newRanks;
            isSpoiled = isSpoiling(newRanks, box.candidates);
            makeList(box);
        }

        void makeList(Box box) {
            length = 0;
            if (isSpoiled) {
                return;
            }
            int rest = ranks;
            for (int digit = 0; digit < CANDIDATES && rest > 0; digit++) {
                int candidate = rest % 10 - 1;
                if (box.isStanding(candidate)) {
                    list[length] = candidate;
                    length++;
                }
                rest /= 10;
            }
        }

        /** Takes the other one's list, with that at the place drawn to the front. */
        void setListWithFirst(Stack other, int place) {
            isSpoiled = other.isSpoiled;
            length = 0;
            for (int k = 0; k < other.length; k++) {
                int from = k == 0 ? place : k <= place ? k - 1 : k;
                list[length] = other.list[from];
                length++;
            }
        }

        private static boolean isSpoiling(int ranks, int candidates) {
            int seen = 0;
            int rest = ranks;
            for (int k = 0; k < CANDIDATES && rest > 0; k++) {
                int digit = rest % 10;
                int bit = 1 << digit;
                if (digit == 0 || digit > candidates || (seen & bit) != 0) {
                    return true;
                }
                seen |= bit;
                rest /= 10;
            }
            return false;
        }

        /** Whether it counts in that district. */
        boolean countsIn(int asked) {
            return district == asked && !isSpoiled;
        }

        /** Who is not in the list is behind all of it. */
        int placeOf(int candidate) {
            for (int place = 0; place < length; place++) {
                if (list[place] == candidate) {
                    return place;
                }
            }
            return length;
        }

        int firstOf(boolean[] isIn) {
            for (int place = 0; place < length; place++) {
                if (isIn[list[place]]) {
                    return list[place];
                }
            }
            return NONE;
        }

        int figure(int what) {
            switch (what) {
                case 0:
                    return district;
                case 1:
                    return ranks;
                case 2:
                    return count;
                case 3:
                    return isSpoiled ? 1 : 0;
                case 4:
                    return length;
                default:
                    return length > 0 ? list[0] : NONE;
            }
        }
    }

    /** All that is told. */
    private static final class Box {
        final int[] partyOf = new int[CANDIDATES];
        final boolean[] stands = new boolean[CANDIDATES];
        int candidates;
        int standing;
        final int[] seatsOf = new int[DISTRICTS];
        int districts;
        /** Never null; stacks[0] to stacks[cast - 1] have been cast. */
        final Stack[] stacks = new Stack[STACKS];
        int cast;
        int percent;
        boolean isSealed;
        int refused;

        Box() {
            for (int k = 0; k < STACKS; k++) {
                stacks[k] = new Stack();
            }
        }

        int addCandidate(int party) {
            int number = candidates;
            partyOf[number] = party;
            stands[number] = true;
            candidates++;
            standing++;
            return number;
        }

        int addDistrict(int seats) {
            int number = districts;
            seatsOf[number] = seats;
            districts++;
            return number;
        }

        int addStack(int district, int ranks, int count) {
            int number = cast;
            Stack added = stacks[number];
            added.district = district;
            added.count = count;
            added.setRanks(ranks, this);
            cast++;
            return number;
        }

        void takeOff(int candidate) {
            stands[candidate] = false;
            standing--;
            for (int k = 0; k < cast; k++) {
                stacks[k].makeList(this);
            }
        }

        boolean isStanding(int candidate) {
            return candidate >= 0 && candidate < candidates && stands[candidate];
        }

        int standingOf(int party) {
            int sum = 0;
            for (int c = 0; c < candidates; c++) {
                if (stands[c] && partyOf[c] == party) {
                    sum++;
                }
            }
            return sum;
        }

        int spoiledStacks() {
            int sum = 0;
            for (int k = 0; k < cast; k++) {
                if (stacks[k].isSpoiled) {
                    sum++;
                }
            }
            return sum;
        }

        int allCounts() {
            int sum = 0;
            for (int k = 0; k < cast; k++) {
                sum += stacks[k].count;
            }
            return sum;
        }

        int countsOfLists() {
            int sum = 0;
            for (int d = 0; d < districts; d++) {
                sum += countsOfListsIn(d);
            }
            return sum;
        }

        int countsOfListsIn(int district) {
            int sum = 0;
            for (int k = 0; k < cast; k++) {
                if (stacks[k].countsIn(district) && stacks[k].length > 0) {
                    sum += stacks[k].count;
                }
            }
            return sum;
        }

        int figure(int what) {
            switch (what) {
                case 0:
                    return candidates;
                case 1:
                    return standing;
                case 2:
                    return districts;
                case 3:
                    return cast;
                case 4:
                    return spoiledStacks();
                case 5:
                    return allCounts();
                case 6:
                    return countsOfLists();
                case 7:
                    return percent;
                case 8:
                    return isSealed ? 1 : 0;
                default:
                    return refused;
            }
        }
    }

    /** Finds the one winner of a district in each of the ways; its rows are filled anew by each count. */
    private static final class Poll {
        final int[] firsts = new int[CANDIDATES];
        final double[] points = new double[CANDIDATES];
        final int[][] beats = new int[CANDIDATES][CANDIDATES];
        final int[][] paths = new int[CANDIDATES][CANDIDATES];
        final int[] goneOut = new int[CANDIDATES];
        private final boolean[] isIn = new boolean[CANDIDATES];
        /** In a round: the counts of the lists that are with each one. */
        private final int[] behind = new int[CANDIDATES];

        int winnerBy(Box box, int district, int way) {
            switch (way) {
                case WAY_FIRSTS:
                    countFirsts(box, district);
                    return mostFirsts(box);
                case WAY_POINTS:
                    countPoints(box, district);
                    return mostPoints(box);
                case WAY_PATHS:
                    countPairs(box, district);
                    return widestPaths(box);
                default:
                    return goRounds(box, district);
            }
        }

        void countFirsts(Box box, int district) {
            for (int c = 0; c < CANDIDATES; c++) {
                firsts[c] = 0;
            }
            for (int k = 0; k < box.cast; k++) {
                Stack stack = box.stacks[k];
                if (stack.countsIn(district) && stack.length > 0) {
                    firsts[stack.list[0]] += stack.count;
                }
            }
        }

        int mostFirsts(Box box) {
            int best = NONE;
            for (int c = 0; c < box.candidates; c++) {
                if (box.stands[c] && (best == NONE || firsts[c] > firsts[best])) {
                    best = c;
                }
            }
            return best;
        }

        void countPoints(Box box, int district) {
            for (int c = 0; c < CANDIDATES; c++) {
                points[c] = box.isStanding(c) ? 0.0 : -1.0;
            }
            for (int k = 0; k < box.cast; k++) {
                Stack stack = box.stacks[k];
                if (stack.countsIn(district)) {
                    addPoints(box, stack);
                }
            }
        }

        private void addPoints(Box box, Stack stack) {
            int unlisted = box.standing - stack.length;
            for (int c = 0; c < box.candidates; c++) {
                int place = stack.placeOf(c);
                if (!box.stands[c]) {
                    continue;
                }
                if (place < stack.length) {
                    points[c] += stack.count * (box.standing - 1 - place);
                } else {
                    points[c] += stack.count * (unlisted - 1) / 2.0;
                }
            }
        }

        private int mostPoints(Box box) {
            int best = NONE;
            for (int c = 0; c < box.candidates; c++) {
                if (box.stands[c] && (best == NONE || points[c] > points[best])) {
                    best = c;
                }
            }
            return best;
        }

        /** Fills beats and paths; both stay 0 for those that are withdrawn. */
        void countPairs(Box box, int district) {
            for (int one = 0; one < CANDIDATES; one++) {
                for (int other = 0; other < CANDIDATES; other++) {
                    beats[one][other] = 0;
                }
            }
            for (int k = 0; k < box.cast; k++) {
                Stack stack = box.stacks[k];
                if (stack.countsIn(district)) {
                    addBeats(box, stack);
                }
            }
            findPaths();
        }

        private void addBeats(Box box, Stack stack) {
            for (int place = 0; place < stack.length; place++) {
                int one = stack.list[place];
                for (int other = 0; other < box.candidates; other++) {
                    if (box.stands[other] && stack.placeOf(other) > place) {
                        beats[one][other] += stack.count;
                    }
                }
            }
        }

        private void findPaths() {
            for (int one = 0; one < CANDIDATES; one++) {
                for (int other = 0; other < CANDIDATES; other++) {
                    int width = beats[one][other];
                    paths[one][other] = width > beats[other][one] ? width : 0;
                }
            }
            for (int by = 0; by < CANDIDATES; by++) {
                for (int one = 0; one < CANDIDATES; one++) {
                    for (int other = 0; other < CANDIDATES; other++) {
                        int width = Math.min(paths[one][by], paths[by][other]);
                        paths[one][other] = Math.max(paths[one][other], width);
                    }
                }
            }
        }

        private int widestPaths(Box box) {
            for (int c = 0; c < box.candidates; c++) {
                if (box.stands[c] && isNowhereNarrower(box, c)) {
                    return c;
                }
            }
            return NONE;
        }

        private boolean isNowhereNarrower(Box box, int one) {
            for (int other = 0; other < box.candidates; other++) {
                if (box.stands[other] && paths[one][other] < paths[other][one]) {
                    return false;
                }
            }
            return true;
        }

        /** Fills goneOut and returns the winner. */
        int goRounds(Box box, int district) {
            countPoints(box, district);
            for (int c = 0; c < CANDIDATES; c++) {
                isIn[c] = box.isStanding(c);
                goneOut[c] = NONE;
            }
            for (int round = 0; round < CANDIDATES; round++) {
                int all = countBehind(box, district);
                int top = mostBehind();
                if (top == NONE) {
                    return NONE;
                }
                boolean isAlone = box.standing - round == 1;
                if (isAlone || 2 * behind[top] > all) {
                    return top;
                }
                int low = leastBehind(top);
                isIn[low] = false;
                goneOut[round] = low;
            }
            return NONE;
        }

        private int countBehind(Box box, int district) {
            for (int c = 0; c < CANDIDATES; c++) {
                behind[c] = 0;
            }
            int all = 0;
            for (int k = 0; k < box.cast; k++) {
                Stack stack = box.stacks[k];
                int with = stack.countsIn(district) ? stack.firstOf(isIn) : NONE;
                if (with != NONE) {
                    behind[with] += stack.count;
                    all += stack.count;
                }
            }
            return all;
        }

        private int mostBehind() {
            int top = NONE;
            for (int c = 0; c < CANDIDATES; c++) {
                if (isIn[c] && (top == NONE || behind[c] > behind[top])) {
                    top = c;
                }
            }
            return top;
        }

        private int leastBehind(int start) {
            int low = start;
            for (int c = 0; c < CANDIDATES; c++) {
                if (isIn[c] && isNoStronger(c, low)) {
                    low = c;
                }
            }
            return low;
        }

        private boolean isNoStronger(int one, int other) {
            if (behind[one] != behind[other]) {
                return behind[one] < behind[other];
            }
            return points[one] <= points[other];
        }

        /**
         * The fewest ballots that change the winner by first choices, as they go over to another one. Third
         * ones are left aside: none is in the way of the strongest other one, and no weaker one needs fewer.
         */
        int leastShift(Box box, int district) {
            countFirsts(box, district);
            int wins = mostFirsts(box);
            if (wins == NONE || firsts[wins] == 0) {
                return NONE;
            }
            int least = NONE;
            for (int c = 0; c < box.candidates; c++) {
                if (box.stands[c] && c != wins) {
                    int shift = shiftTo(wins, c);
                    least = least == NONE ? shift : Math.min(least, shift);
                }
            }
            return least;
        }

        /** Each ballot takes from the winner what it gives to the other one, so half of the lead is enough. */
        private int shiftTo(int wins, int gains) {
            int lead = firsts[wins] - firsts[gains];
            return gains < wins ? (lead + 1) / 2 : lead / 2 + 1;
        }
    }

    /** Fills the seats of a district by transfers. */
    private static final class Transfers {
        final int[] chosen = new int[MOST_SEATS];
        private final boolean[] isIn = new boolean[CANDIDATES];
        private final double[] held = new double[CANDIDATES];

        /** Fills chosen, and the value of each stack of the district. */
        void fillSeats(Box box, int district) {
            start(box, district);
            int seats = box.seatsOf[district];
            int quota = box.countsOfListsIn(district) / (seats + 1) + 1;
            int gone = 0;
            for (int step = 0; step < CANDIDATES && gone < seats; step++) {
                countHeld(box, district);
                int top = mostHeld();
                if (top == NONE) {
                    return;
                }
                boolean allGetSeats = box.standing - step <= seats - gone;
                if (allGetSeats || held[top] >= quota) {
                    lowerValues(box, district, top, quota);
                    isIn[top] = false;
                    chosen[gone] = top;
                    gone++;
                } else {
                    isIn[leastHeld(top)] = false;
                }
            }
        }

        private void start(Box box, int district) {
            for (int seat = 0; seat < MOST_SEATS; seat++) {
                chosen[seat] = NONE;
            }
            for (int c = 0; c < CANDIDATES; c++) {
                isIn[c] = box.isStanding(c);
            }
            for (int k = 0; k < box.cast; k++) {
                Stack stack = box.stacks[k];
                if (stack.district == district) {
                    stack.value = stack.isSpoiled ? 0.0 : stack.count;
                }
            }
        }

        private void countHeld(Box box, int district) {
            for (int c = 0; c < CANDIDATES; c++) {
                held[c] = 0.0;
            }
            for (int k = 0; k < box.cast; k++) {
                Stack stack = box.stacks[k];
                int with = stack.countsIn(district) ? stack.firstOf(isIn) : NONE;
                if (with != NONE) {
                    held[with] += stack.value;
                }
            }
        }

        private int mostHeld() {
            int top = NONE;
            for (int c = 0; c < CANDIDATES; c++) {
                if (isIn[c] && (top == NONE || held[c] > held[top])) {
                    top = c;
                }
            }
            return top;
        }

        private int leastHeld(int start) {
            int low = start;
            for (int c = 0; c < CANDIDATES; c++) {
                if (isIn[c] && held[c] <= held[low]) {
                    low = c;
                }
            }
            return low;
        }

        /** Asks for the lists before the one that is elected leaves. */
        private void lowerValues(Box box, int district, int top, int quota) {
            for (int k = 0; k < box.cast; k++) {
                Stack stack = box.stacks[k];
                if (stack.countsIn(district) && stack.firstOf(isIn) == top) {
                    stack.value = loweredValue(stack.value, held[top], quota);
                }
            }
        }

        private static double loweredValue(double value, double heldOfIt, int quota) {
            // A quota is 1 at least, so that the divisor below is never 0.
            if (heldOfIt < quota || heldOfIt <= 0.0) {
                return 0.0;
            }
            double parts = WORTH_PARTS * value * (heldOfIt - quota) / heldOfIt;
            return (double) (long) parts / WORTH_PARTS;
        }
    }

    /** Counts for parties, and shares a house among them. */
    private static final class Parties {
        final int[] votes = new int[PARTIES];
        int allVotes;
        final int[] standing = new int[PARTIES];
        final boolean[] isBarred = new boolean[PARTIES];
        final int[] direct = new int[PARTIES];
        final int[] wasted = new int[PARTIES];
        final int[] seats = new int[PARTIES];
        private final int[] votesHere = new int[PARTIES];
        private final int[] remainders = new int[PARTIES];

        /** Fills votes, standing and isBarred. */
        void countVotes(Box box) {
            allVotes = 0;
            for (int p = 0; p < PARTIES; p++) {
                votes[p] = 0;
                standing[p] = box.standingOf(p);
            }
            for (int k = 0; k < box.cast; k++) {
                Stack stack = box.stacks[k];
                if (stack.length > 0) {
                    votes[box.partyOf[stack.list[0]]] += stack.count;
                    allVotes += stack.count;
                }
            }
            for (int p = 0; p < PARTIES; p++) {
                isBarred[p] = 100 * votes[p] < box.percent * allVotes;
            }
        }

        int barredSet() {
            int set = 0;
            for (int p = 0; p < PARTIES; p++) {
                if (isBarred[p]) {
                    set |= 1 << p;
                }
            }
            return set;
        }

        /** Fills direct and wasted. */
        void countDistricts(Box box, Poll poll) {
            for (int p = 0; p < PARTIES; p++) {
                direct[p] = 0;
                wasted[p] = 0;
            }
            for (int d = 0; d < box.districts; d++) {
                poll.countFirsts(box, d);
                int wins = poll.mostFirsts(box);
                if (wins != NONE && poll.firsts[wins] > 0) {
                    int party = box.partyOf[wins];
                    direct[party]++;
                    addWasted(party, countVotesHere(box, poll));
                }
            }
        }

        private int countVotesHere(Box box, Poll poll) {
            int all = 0;
            for (int p = 0; p < PARTIES; p++) {
                votesHere[p] = 0;
            }
            for (int c = 0; c < box.candidates; c++) {
                votesHere[box.partyOf[c]] += poll.firsts[c];
                all += poll.firsts[c];
            }
            return all;
        }

        private void addWasted(int winning, int all) {
            int enough = all / 2 + 1;
            for (int p = 0; p < PARTIES; p++) {
                int idle = p == winning ? Math.max(votesHere[p] - enough, 0) : votesHere[p];
                wasted[p] += idle;
            }
        }

        int figure(int party, int what) {
            switch (what) {
                case 0:
                    return votes[party];
                case 1:
                    return standing[party];
                case 2:
                    return direct[party];
                case 3:
                    return wasted[party];
                default:
                    return isBarred[party] ? 1 : 0;
            }
        }

        /** Fills seats, by the votes as they are counted. */
        void shareSeats(int house, int rule) {
            for (int p = 0; p < PARTIES; p++) {
                seats[p] = 0;
            }
            if (rule == RULE_REMAINDERS) {
                shareByRemainders(house);
            } else {
                shareByDivisors(house, rule == RULE_ODD_DIVISORS ? 2 : 1);
            }
        }

        private boolean takesPart(int party) {
            return votes[party] > 0 && !isBarred[party];
        }

        private void shareByDivisors(int house, int step) {
            for (int seat = 0; seat < house; seat++) {
                int next = NONE;
                double best = 0.0;
                for (int p = 0; p < PARTIES; p++) {
                    double quotient = votes[p] / (double) (1 + step * seats[p]);
                    if (takesPart(p) && (next == NONE || quotient > best
                            || quotient == best && votes[p] > votes[next])) {
                        next = p;
                        best = quotient;
                    }
                }
                if (next == NONE) {
                    return;
                }
                seats[next]++;
            }
        }

        private void shareByRemainders(int house) {
            int all = 0;
            for (int p = 0; p < PARTIES; p++) {
                all += takesPart(p) ? votes[p] : 0;
            }
            if (all == 0) {
                return;
            }
            int left = house;
            for (int p = 0; p < PARTIES; p++) {
                int parts = takesPart(p) ? house * votes[p] : 0;
                seats[p] = parts / all;
                remainders[p] = takesPart(p) ? parts % all : NONE;
                left -= seats[p];
            }
            for (int k = 0; k < left; k++) {
                giveToGreatestRemainder();
            }
        }

        private void giveToGreatestRemainder() {
            int next = NONE;
            for (int p = 0; p < PARTIES; p++) {
                if (remainders[p] != NONE && (next == NONE || remainders[p] > remainders[next]
                        || remainders[p] == remainders[next] && votes[p] > votes[next])) {
                    next = p;
                }
            }
            if (next != NONE) {
                seats[next]++;
                remainders[next] = NONE;
            }
        }

        int seatsAbove() {
            int sum = 0;
            for (int p = 0; p < PARTIES; p++) {
                sum += Math.max(direct[p] - seats[p], 0);
            }
            return sum;
        }

        private int seatsTogether(int set) {
            int sum = 0;
            for (int p = 0; p < PARTIES; p++) {
                if ((set & 1 << p) != 0) {
                    sum += seats[p];
                }
            }
            return sum;
        }

        private boolean isRuling(int set, int house) {
            return 2 * seatsTogether(set) > house;
        }

        int swingsOf(int party, int house) {
            int self = 1 << party;
            int sum = 0;
            for (int set = 0; set < SETS; set++) {
                if ((set & self) == 0 && !isRuling(set, house) && isRuling(set | self, house)) {
                    sum++;
                }
            }
            return sum;
        }

        int leastRulers(int house) {
            int least = 0;
            for (int set = 1; set < SETS; set++) {
                if (isRuling(set, house) && (least == 0 || isLess(set, least))) {
                    least = set;
                }
            }
            return least;
        }

        /** Sets that are alike in both are left in the order of their numbers. */
        private boolean isLess(int one, int other) {
            int parties = Integer.bitCount(one);
            int others = Integer.bitCount(other);
            if (parties != others) {
                return parties < others;
            }
            return seatsTogether(one) < seatsTogether(other);
        }
    }
}
