/** Promises 11 to 25: what is asked. Each answer here was worked out by hand. */
final class AskedTest {
    private static final Checks CHECKS = new Checks("AskedTest");

    public static void main(String[] args) {
        promise11OfStack();
        promise12Firsts();
        promise13Points();
        promise13PointsOfEmptyLists();
        promise14Pair();
        promise14Paths();
        promise15Winner();
        promise15Ties();
        promise15FourWays();
        promise16Out();
        promise16Ties();
        promise16MoreThanHalf();
        promise17Elected();
        promise17Ties();
        promise18Worth();
        promise18WorthOfOddLists();
        promise19OfParty();
        promise19Wasted();
        promise20Share();
        promise20Ties();
        promise20Threshold();
        promise21Overhang();
        promise22Swings();
        promise23Coalition();
        promise24Gap();
        promise25Many();
        CHECKS.finish();
    }

    /** Lists 8 of 0; 5 of 1, 2; 4 of 2, 1, 3; 3 of 3, 2; and 2 spoiled ones, in a district of so many seats. */
    private static BallotLoom fourCandidates(int seats) {
        BallotLoom x = new BallotLoom();
        x.candidate(0);
        x.candidate(1);
        x.candidate(1);
        x.candidate(2);
        x.district(seats);
        x.cast(0, 1, 8);
        x.cast(0, 32, 5);
        x.cast(0, 423, 4);
        x.cast(0, 34, 3);
        x.cast(0, 11, 2);
        return x;
    }

    /** One district, and as many candidates as counts, each alone on a stack with its count (none with 0). */
    private static BallotLoom alone(int... counts) {
        BallotLoom x = new BallotLoom();
        x.district(1);
        for (int k = 0; k < counts.length; k++) {
            x.candidate(Math.min(k, 3));
        }
        for (int k = 0; k < counts.length; k++) {
            if (counts[k] > 0) {
                x.cast(0, k + 1, counts[k]);
            }
        }
        return x;
    }

    private static void promise11OfStack() {
        BallotLoom x = fourCandidates(2);
        int[] due = {0, 423, 4, 0, 3, 2};
        int[] spoiled = {0, 11, 2, 1, 0, -1};
        for (int what = 0; what <= 5; what++) {
            CHECKS.due("ofStack(2, " + what + ")", x.ofStack(2, what), due[what]);
            CHECKS.due("ofStack(4, " + what + ")", x.ofStack(4, what), spoiled[what]);
        }
        CHECKS.indexOut("ofStack(5, 0)", () -> x.ofStack(5, 0));
        CHECKS.indexOut("ofStack(-1, 6)", () -> x.ofStack(-1, 6));
        CHECKS.badArgument("ofStack(0, 6)", () -> x.ofStack(0, 6));
        CHECKS.badArgument("ofStack(0, -1)", () -> x.ofStack(0, -1));
    }

    private static void promise12Firsts() {
        BallotLoom x = fourCandidates(2);
        int[] due = {8, 5, 4, 3};
        for (int c = 0; c < 4; c++) {
            CHECKS.due("firsts(0, " + c + ")", x.firsts(0, c), due[c]);
        }
        x.withdraw(3);
        CHECKS.due("its list goes to the next", x.firsts(0, 2), 7);
        CHECKS.due("firsts of who is withdrawn", x.firsts(0, 3), 0);
        CHECKS.indexOut("firsts(1, 0)", () -> x.firsts(1, 0));
        CHECKS.indexOut("firsts(-1, 0)", () -> x.firsts(-1, 0));
        CHECKS.indexOut("firsts(0, 4)", () -> x.firsts(0, 4));
        CHECKS.indexOut("firsts(0, -1)", () -> x.firsts(0, -1));
    }

    private static void promise13Points() {
        BallotLoom x = fourCandidates(2);
        // 24 + 5/2 + 0 + 3/2; 8 + 15 + 8 + 3/2; 8 + 10 + 12 + 6; 8 + 5/2 + 4 + 9
        double[] due = {28.0, 32.5, 36.0, 23.5};
        for (int c = 0; c < 4; c++) {
            CHECKS.due("points(0, " + c + ")", x.points(0, c), due[c]);
        }
        x.withdraw(0);
        CHECKS.due("points of who is withdrawn", x.points(0, 0), -1.0);
        // The 8 are empty then, of 3 that stand: 8 * 2 / 2.0 each; 5 * 2, 4 * 1, none of 3.
        CHECKS.due("points(0, 1) of three", x.points(0, 1), 8.0 + 10.0 + 4.0);
        CHECKS.indexOut("points(1, 0)", () -> x.points(1, 0));
        CHECKS.indexOut("points(0, 4)", () -> x.points(0, 4));
        CHECKS.indexOut("points(0, -1)", () -> x.points(0, -1));
    }

    private static void promise13PointsOfEmptyLists() {
        BallotLoom x = alone(0, 0, 7);
        x.withdraw(2);
        CHECKS.due("an empty list gives to all", x.points(0, 0), 3.5);
        CHECKS.due("an empty list gives to all alike", x.points(0, 1), 3.5);
        x.withdraw(1);
        CHECKS.due("of one that stands", x.points(0, 0), 0.0);
        x.candidate(0);
        CHECKS.due("of two again", x.points(0, 3), 3.5);
    }

    private static void promise14Pair() {
        BallotLoom x = fourCandidates(2);
        int[][] beats = {{0, 8, 8, 8}, {9, 0, 5, 9}, {12, 7, 0, 9}, {7, 3, 3, 0}};
        int[][] paths = {{0, 0, 0, 8}, {9, 0, 0, 9}, {12, 7, 0, 9}, {0, 0, 0, 0}};
        for (int one = 0; one < 4; one++) {
            for (int other = 0; other < 4; other++) {
                if (one != other) {
                    String both = one + " over " + other;
                    CHECKS.due("beats of " + both, x.pair(0, one, other, false), beats[one][other]);
                    CHECKS.due("path of " + both, x.pair(0, one, other, true), paths[one][other]);
                }
            }
        }
        CHECKS.badArgument("pair of the same", () -> x.pair(0, 1, 1, true));
        CHECKS.indexOut("pair of the same in no district", () -> x.pair(1, 1, 1, true));
        CHECKS.indexOut("pair of no candidate twice", () -> x.pair(0, 4, 4, false));
        CHECKS.indexOut("pair(0, -1, 0)", () -> x.pair(0, -1, 0, false));
        CHECKS.indexOut("pair(0, 0, 4)", () -> x.pair(0, 0, 4, true));
        x.withdraw(2);
        CHECKS.due("beats over who is withdrawn", x.pair(0, 1, 2, false), 0);
        CHECKS.due("beats of who is withdrawn", x.pair(0, 2, 0, false), 0);
        CHECKS.due("path from who is withdrawn", x.pair(0, 2, 0, true), 0);
        CHECKS.badArgument("pair of who is withdrawn, twice", () -> x.pair(0, 2, 2, true));
    }

    private static void promise14Paths() {
        BallotLoom x = new BallotLoom();
        for (int k = 0; k < 3; k++) {
            x.candidate(k);
        }
        x.district(1);
        x.cast(0, 321, 7);
        x.cast(0, 132, 6);
        x.cast(0, 213, 4);
        // Steps: 0 to 1 of 11, 1 to 2 of 13, 2 to 0 of 10.
        CHECKS.due("a row of two steps, the first narrower", x.pair(0, 0, 2, true), 11);
        CHECKS.due("a row of two steps, the second narrower", x.pair(0, 1, 0, true), 10);
        CHECKS.due("its beats", x.pair(0, 1, 0, false), 6);
        CHECKS.due("2 to 1", x.pair(0, 2, 1, true), 10);
        CHECKS.due("winner by paths", x.winner(0, 2), 0);
        x.withdraw(0);
        CHECKS.due("no row by who is withdrawn", x.pair(0, 2, 1, true), 0);
        CHECKS.due("1 wins then", x.winner(0, 2), 1);
        BallotLoom tied = alone(4, 4);
        CHECKS.due("beats, alike both ways", tied.pair(0, 1, 0, false), 4);
        CHECKS.due("no step then", tied.pair(0, 1, 0, true), 0);
        CHECKS.due("nor back", tied.pair(0, 0, 1, true), 0);
    }

    private static void promise15Winner() {
        BallotLoom x = fourCandidates(2);
        int[] due = {0, 2, 2, 2};
        for (int way = 0; way <= 3; way++) {
            CHECKS.due("winner(0, " + way + ")", x.winner(0, way), due[way]);
        }
        CHECKS.indexOut("winner(1, 0)", () -> x.winner(1, 0));
        CHECKS.indexOut("winner(-1, 4)", () -> x.winner(-1, 4));
        CHECKS.badArgument("winner(0, 4)", () -> x.winner(0, 4));
        CHECKS.badArgument("winner(0, -1)", () -> x.winner(0, -1));
        for (int c = 0; c < 4; c++) {
            x.withdraw(c);
        }
        for (int way = 0; way <= 3; way++) {
            CHECKS.due("winner of none by " + way, x.winner(0, way), -1);
        }
    }

    private static void promise15Ties() {
        BallotLoom x = alone(0, 4, 4, 0);
        for (int way = 0; way <= 3; way++) {
            CHECKS.due("of two alike by " + way, x.winner(0, way), 1);
        }
        BallotLoom empty = alone(0, 0, 0);
        for (int way = 0; way <= 3; way++) {
            CHECKS.due("without a ballot by " + way, empty.winner(0, way), 0);
        }
        empty.withdraw(0);
        for (int way = 0; way <= 3; way++) {
            CHECKS.due("without a ballot, 0 withdrawn, by " + way, empty.winner(0, way), 1);
        }
        BallotLoom late = alone(3, 5);
        CHECKS.due("the greater number with more", late.winner(0, 0), 1);
    }

    /** Each way has a winner of its own. */
    private static void promise15FourWays() {
        BallotLoom x = new BallotLoom();
        for (int k = 0; k < 4; k++) {
            x.candidate(k);
        }
        x.district(1);
        x.cast(0, 1432, 2);
        x.cast(0, 4, 2);
        x.cast(0, 21, 5);
        x.cast(0, 241, 1);
        x.cast(0, 243, 5);
        CHECKS.due("by firsts: 6, 2, 5, 2", x.winner(0, 0), 0);
        double[] points = {0 + 2 + 15 + 3 + 0, 6 + 2 + 10 + 1 + 5, 4 + 2 + 2.5 + 0 + 15, 2 + 6 + 2.5 + 2 + 10};
        for (int c = 0; c < 4; c++) {
            CHECKS.due("points of " + c, x.points(0, c), points[c]);
        }
        CHECKS.due("by points", x.winner(0, 1), 1);
        // Steps: 1 to 0 of 7, 2 to 0 of 7, 3 to 0 of 9, 1 to 2 of 8, 3 to 1 of 8, 2 to 3 of 7.
        CHECKS.due("path from 3 to 2, by 1", x.pair(0, 3, 2, true), 8);
        CHECKS.due("path from 2 to 1, by 3", x.pair(0, 2, 1, true), 7);
        CHECKS.due("path from 1 to 0, as wide by 2 and 3", x.pair(0, 1, 0, true), 7);
        CHECKS.due("path from 0", x.pair(0, 0, 1, true), 0);
        CHECKS.due("by paths", x.winner(0, 2), 3);
        // Of 1 and 3 with 2 each 3 has fewer points; then 6, 2, 5 of 13; then 6 and 7.
        CHECKS.due("out first", x.out(0, 0), 3);
        CHECKS.due("out then", x.out(0, 1), 1);
        CHECKS.due("out no more", x.out(0, 2), -1);
        CHECKS.due("by rounds", x.winner(0, 3), 2);
    }

    private static void promise16Out() {
        BallotLoom x = fourCandidates(2);
        int[] due = {3, 1, -1, -1, -1, -1};
        for (int round = 0; round <= 5; round++) {
            CHECKS.due("out(0, " + round + ")", x.out(0, round), due[round]);
        }
        CHECKS.indexOut("out(1, 0)", () -> x.out(1, 0));
        CHECKS.indexOut("out(-1, 6)", () -> x.out(-1, 6));
        CHECKS.badArgument("out(0, 6)", () -> x.out(0, 6));
        CHECKS.badArgument("out(0, -1)", () -> x.out(0, -1));
        BallotLoom six = alone(0, 0, 0, 0, 0, 0);
        for (int round = 0; round <= 4; round++) {
            CHECKS.due("without a ballot out(0, " + round + ")", six.out(0, round), 5 - round);
        }
        CHECKS.due("the only one in wins", six.out(0, 5), -1);
        six.withdraw(5);
        CHECKS.due("who is withdrawn does not go out", six.out(0, 0), 4);
    }

    private static void promise16Ties() {
        BallotLoom x = alone(5, 3, 3);
        CHECKS.due("alike in points too: the greatest number", x.out(0, 0), 2);
        CHECKS.due("then 5 of 8", x.out(0, 1), -1);
        BallotLoom y = new BallotLoom();
        for (int k = 0; k < 3; k++) {
            y.candidate(k);
        }
        y.district(1);
        y.cast(0, 31, 5);
        y.cast(0, 12, 3);
        y.cast(0, 13, 3);
        CHECKS.due("points of 1", y.points(0, 1), 6.0);
        CHECKS.due("points of 2", y.points(0, 2), 11.0);
        CHECKS.due("the fewest points", y.out(0, 0), 1);
    }

    private static void promise16MoreThanHalf() {
        BallotLoom half = alone(5, 3, 2);
        CHECKS.due("half is not more", half.out(0, 0), 2);
        CHECKS.due("5 of 8 are", half.out(0, 1), -1);
        BallotLoom more = alone(6, 3, 2);
        CHECKS.due("6 of 11 are more", more.out(0, 0), -1);
        BallotLoom less = alone(4, 3, 2);
        CHECKS.due("4 of 9 are not", less.out(0, 0), 2);
        CHECKS.due("4 of the 7 that are with anyone are", less.out(0, 1), -1);
        BallotLoom two = alone(4, 4);
        CHECKS.due("two alike", two.out(0, 0), 1);
        CHECKS.due("then one is alone", two.winner(0, 3), 0);
    }

    private static void promise17Elected() {
        // Quota 20 / 3 + 1 = 7: 0 with 8; then 3 goes out, and 2 has 7.
        dueElected(fourCandidates(2), 0, 2);
        // Quota 20 / 2 + 1 = 11: 3 goes out (8, 5, 7), 1 goes out (8, 12).
        dueElected(fourCandidates(1), 2);
        // Quota 20 / 5 + 1 = 5: no more than seats: by what they hold, 8, 5, 4, 3 or more.
        dueElected(fourCandidates(4), 0, 1, 2, 3);
        dueElected(fourCandidates(5), 0, 1, 2, 3);
        // Quota 20 / 4 + 1 = 6: 0 with 8; 1, 2, 3 hold 5, 4, 3: 3 goes out; 2 holds 7, then 1 alone is left.
        dueElected(fourCandidates(3), 0, 2, 1);
        BallotLoom x = fourCandidates(5);
        CHECKS.indexOut("elected(1, 0)", () -> x.elected(1, 0));
        CHECKS.indexOut("elected(-1, 5)", () -> x.elected(-1, 5));
        CHECKS.badArgument("elected(0, 5)", () -> x.elected(0, 5));
        CHECKS.badArgument("elected(0, -1)", () -> x.elected(0, -1));
        x.withdraw(0);
        dueElected(x, 1, 2, 3);
        x.withdraw(1);
        x.withdraw(2);
        x.withdraw(3);
        dueElected(x);
    }

    private static void dueElected(BallotLoom x, int... due) {
        for (int seat = 0; seat <= 4; seat++) {
            CHECKS.due("elected(0, " + seat + ")", x.elected(0, seat), seat < due.length ? due[seat] : -1);
        }
    }

    private static void promise17Ties() {
        // Quota 12 / 2 + 1 = 7: of 4, 4, 4 the greatest number goes out, then of 4, 4 again; 0 is left.
        dueElected(alone(4, 4, 4), 0);
        BallotLoom same = new BallotLoom();
        same.candidate(0);
        same.candidate(0);
        same.candidate(0);
        same.district(2);
        same.cast(0, 2, 6);
        same.cast(0, 3, 6);
        // Quota 12 / 3 + 1 = 5: 1 and 2 hold 6 each, the smaller number first.
        dueElected(same, 1, 2);
    }

    private static void promise18Worth() {
        BallotLoom two = fourCandidates(2);
        double[] dueOfTwo = {1.0, 5.0, 0.0, 0.0, 0.0};
        // Quota 4: 0 passes on 4 of 8; 1 with 5 passes on 1; 2 holds 4 + 1: 4 * 1 / 5 and 1 * 1 / 5, cut to 1/1024.
        // 3 holds 3 and 819 / 1024, less than the quota: nothing is left of these.
        BallotLoom five = fourCandidates(5);
        double[] dueOfFive = {4.0, 204 / 1024.0, 0.0, 0.0, 0.0};
        // With 3 seats: quota 6: 0 passes on 2; 3 goes out; 2 with 7 passes on 4 / 7 and 3 / 7; 1 with 5 and 585
        // of 1024 is elected below the quota.
        BallotLoom three = fourCandidates(3);
        double[] dueOfThree = {2.0, 0.0, 0.0, 438 / 1024.0, 0.0};
        for (int stack = 0; stack < 5; stack++) {
            CHECKS.due("2 seats: worth(" + stack + ")", two.worth(stack), dueOfTwo[stack]);
            CHECKS.due("5 seats: worth(" + stack + ")", five.worth(stack), dueOfFive[stack]);
            CHECKS.due("3 seats: worth(" + stack + ")", three.worth(stack), dueOfThree[stack]);
        }
        CHECKS.indexOut("worth(5)", () -> two.worth(5));
        CHECKS.indexOut("worth(-1)", () -> two.worth(-1));
    }

    private static void promise18WorthOfOddLists() {
        BallotLoom x = alone(3, 0, 7);
        x.district(1);
        x.cast(1, 2, 9);
        x.withdraw(2);
        CHECKS.due("an empty list keeps its count", x.worth(1), 7.0);
        // Quota 3 / 2 + 1 = 2, without the empty one.
        CHECKS.due("the quota leaves the empty one out", x.worth(0), 1.0);
        CHECKS.due("that of the other district", x.worth(2), 4.0);
        x.move(2, 0);
        // Quota 12 / 2 + 1 = 7: 1 with 9 passes on 2.
        CHECKS.due("moved here", x.worth(2), 2.0);
        CHECKS.due("nobody took it", x.worth(0), 3.0);
    }

    /** Votes 47, 16, 12 and 25 of parties 0 to 3 in a district. */
    private static BallotLoom fourParties() {
        return alone(47, 16, 12, 25);
    }

    private static void promise19OfParty() {
        BallotLoom x = fourParties();
        x.threshold(13);
        x.candidate(2);
        x.withdraw(3);
        // Of 75 votes 38 are enough.
        int[][] due = {{47, 1, 1, 9, 0}, {16, 1, 0, 16, 0}, {12, 2, 0, 12, 0}, {0, 0, 0, 0, 1}};
        for (int party = 0; party < 4; party++) {
            for (int what = 0; what <= 4; what++) {
                CHECKS.due("ofParty(" + party + ", " + what + ")", x.ofParty(party, what), due[party][what]);
            }
        }
        CHECKS.indexOut("ofParty(4, 0)", () -> x.ofParty(4, 0));
        CHECKS.indexOut("ofParty(-1, 5)", () -> x.ofParty(-1, 5));
        CHECKS.badArgument("ofParty(0, 5)", () -> x.ofParty(0, 5));
        CHECKS.badArgument("ofParty(0, -1)", () -> x.ofParty(0, -1));
        BallotLoom empty = alone(0, 0);
        CHECKS.due("no direct seat without a first", empty.ofParty(0, 2), 0);
        CHECKS.due("but with one first", alone(0, 1).ofParty(1, 2), 1);
    }

    private static void promise19Wasted() {
        BallotLoom x = new BallotLoom();
        x.candidate(0);
        x.candidate(1);
        x.candidate(0);
        x.district(1);
        x.district(1);
        x.cast(0, 1, 4);
        x.cast(0, 2, 5);
        x.cast(0, 3, 3);
        // 1 wins with 5 of 12; its party has no more than 7; party 0 wastes 7.
        CHECKS.due("the party of the winner, below half", x.ofParty(1, 3), 0);
        CHECKS.due("the other party, two candidates", x.ofParty(0, 3), 7);
        CHECKS.due("the direct seat is of the winner's party", x.ofParty(1, 2), 1);
        x.cast(1, 1, 6);
        x.cast(1, 3, 5);
        x.cast(1, 2, 2);
        // 0 wins with 6 of 13, its party has 11: 11 - 7 = 4 more.
        CHECKS.due("in both districts", x.ofParty(0, 3), 7 + 4);
        CHECKS.due("of party 1 in both", x.ofParty(1, 3), 2);
        CHECKS.due("direct of party 0", x.ofParty(0, 2), 1);
        CHECKS.due("votes in both", x.ofParty(0, 0), 18);
    }

    private static void promise20Share() {
        BallotLoom x = fourParties();
        dueShares(x, 10, 0, 5, 1, 1, 3);
        dueShares(x, 10, 1, 5, 2, 1, 2);
        dueShares(x, 10, 2, 5, 2, 1, 2);
        dueShares(x, 5, 0, 3, 1, 0, 1);
        dueShares(x, 5, 1, 2, 1, 1, 1);
        dueShares(x, 5, 2, 2, 1, 1, 1);
        dueShares(x, 1, 0, 1, 0, 0, 0);
        dueShares(x, 1, 2, 1, 0, 0, 0);
        dueShares(x, 60, 2, 28, 10, 7, 15);
        CHECKS.indexOut("share(4, 10, 0)", () -> x.share(4, 10, 0));
        CHECKS.indexOut("share(-1, 0, 3)", () -> x.share(-1, 0, 3));
        CHECKS.badArgument("share(0, 0, 0)", () -> x.share(0, 0, 0));
        CHECKS.badArgument("share(0, 61, 0)", () -> x.share(0, 61, 0));
        CHECKS.badArgument("share(0, 10, 3)", () -> x.share(0, 10, 3));
        CHECKS.badArgument("share(0, 10, -1)", () -> x.share(0, 10, -1));
        dueShares(alone(0, 0, 0, 0), 60, 0, 0, 0, 0, 0);
        dueShares(alone(0, 0, 0, 0), 60, 2, 0, 0, 0, 0);
        dueShares(alone(0, 0, 1, 0), 60, 0, 0, 0, 60, 0);
        dueShares(alone(0, 0, 1, 0), 60, 2, 0, 0, 60, 0);
    }

    private static void dueShares(BallotLoom x, int house, int rule, int... due) {
        for (int party = 0; party < 4; party++) {
            CHECKS.due("share(" + party + ", " + house + ", " + rule + ")", x.share(party, house, rule), due[party]);
        }
    }

    private static void promise20Ties() {
        // 10 / 2 is 5 / 1: the one with more votes.
        dueShares(alone(5, 10, 0, 0), 2, 0, 0, 2, 0, 0);
        dueShares(alone(5, 10, 0, 0), 3, 0, 1, 2, 0, 0);
        // 15 / 3 is 5 / 1.
        dueShares(alone(5, 15, 0, 0), 2, 1, 0, 2, 0, 0);
        dueShares(alone(7, 7, 7, 0), 2, 0, 1, 1, 0, 0);
        dueShares(alone(7, 7, 7, 0), 1, 2, 1, 0, 0, 0);
        // 2 * 3 and 2 * 9 of 12: 0 and 6 left, 1 and 6 left: the one with more votes.
        dueShares(alone(3, 9, 0, 0), 2, 2, 0, 2, 0, 0);
        // Who has no votes gets none, though more are left than others have remainders.
        dueShares(alone(0, 6, 6, 0), 3, 2, 0, 2, 1, 0);
    }

    private static void promise20Threshold() {
        BallotLoom x = fourParties();
        CHECKS.due("12 of 100 is not below", x.threshold(12), 0);
        dueShares(x, 10, 0, 5, 1, 1, 3);
        CHECKS.due("12 of 100 is below", x.threshold(13), 4);
        // 470, 160 and 250 by 88: 5, 1, 2, and 30, 72, 74 left.
        dueShares(x, 10, 2, 5, 2, 0, 3);
        dueShares(x, 10, 0, 5, 2, 0, 3);
        CHECKS.due("it has its votes still", x.ofParty(2, 0), 12);
    }

    private static void promise21Overhang() {
        BallotLoom x = new BallotLoom();
        for (int k = 0; k < 4; k++) {
            x.candidate(k);
            x.district(1);
        }
        x.cast(0, 1, 10);
        x.cast(1, 1, 10);
        x.cast(2, 2, 10);
        x.cast(2, 3, 9);
        x.cast(0, 3, 9);
        x.cast(1, 3, 9);
        // Direct: 2, 1, 0, 0 (in the last district nobody has a first); votes 20, 10, 27, 0.
        CHECKS.due("overhang(1, 0)", x.overhang(1, 0), 3);
        CHECKS.due("overhang(2, 0)", x.overhang(2, 0), 2);
        CHECKS.due("overhang(3, 0): shares 1, 0, 2", x.overhang(3, 0), 2);
        CHECKS.due("overhang(3, 1): shares 1, 1, 1", x.overhang(3, 1), 1);
        CHECKS.due("overhang(6, 2): shares 2, 1, 3", x.overhang(6, 2), 0);
        x.threshold(18);
        CHECKS.due("a barred one's direct seats hang over", x.overhang(60, 2), 1);
        CHECKS.badArgument("overhang(0, 0)", () -> x.overhang(0, 0));
        CHECKS.badArgument("overhang(61, 0)", () -> x.overhang(61, 0));
        CHECKS.badArgument("overhang(60, 3)", () -> x.overhang(60, 3));
        CHECKS.badArgument("overhang(60, -1)", () -> x.overhang(60, -1));
    }

    private static void promise22Swings() {
        BallotLoom x = fourParties();
        // Seats 5, 1, 1, 3 of 10: 6 rule.
        int[] due = {7, 1, 1, 1};
        // Seats 3, 1, 0, 1 of 5: 3 rule.
        int[] dueOf5 = {8, 0, 0, 0};
        for (int party = 0; party < 4; party++) {
            CHECKS.due("swings(" + party + ", 10, 0)", x.swings(party, 10, 0), due[party]);
            CHECKS.due("swings(" + party + ", 5, 0)", x.swings(party, 5, 0), dueOf5[party]);
        }
        BallotLoom half = alone(6, 6, 0, 0);
        CHECKS.due("half does not rule", half.swings(0, 2, 0), 4);
        CHECKS.due("without votes", alone(0, 0).swings(0, 5, 0), 0);
        CHECKS.indexOut("swings(4, 10, 0)", () -> x.swings(4, 10, 0));
        CHECKS.indexOut("swings(-1, 0, 0)", () -> x.swings(-1, 0, 0));
        CHECKS.badArgument("swings(0, 0, 0)", () -> x.swings(0, 0, 0));
        CHECKS.badArgument("swings(0, 61, 0)", () -> x.swings(0, 61, 0));
        CHECKS.badArgument("swings(0, 60, 3)", () -> x.swings(0, 60, 3));
    }

    private static void promise23Coalition() {
        BallotLoom x = fourParties();
        CHECKS.due("5, 1, 1, 3: of two with 6 the smaller set", x.coalition(10, 0), 3);
        CHECKS.due("5, 2, 1, 2: of two the fewest seats", x.coalition(10, 1), 5);
        CHECKS.due("3, 1, 0, 1: one alone", x.coalition(5, 0), 1);
        CHECKS.due("one seat", x.coalition(1, 0), 1);
        // Seats 2, 1, 1, 1 of 5: of two 3 seats each; the smallest set.
        CHECKS.due("2, 1, 1, 1", x.coalition(5, 2), 3);
        CHECKS.due("7, 7, 7 of 3 seats: two of three", alone(7, 7, 7).coalition(3, 0), 3);
        CHECKS.due("three of four", alone(5, 5, 5, 5).coalition(4, 0), 7);
        CHECKS.due("none without votes", alone(0, 0).coalition(10, 0), 0);
        CHECKS.badArgument("coalition(0, 0)", () -> x.coalition(0, 0));
        CHECKS.badArgument("coalition(61, 0)", () -> x.coalition(61, 0));
        CHECKS.badArgument("coalition(60, 3)", () -> x.coalition(60, 3));
        CHECKS.badArgument("coalition(60, -1)", () -> x.coalition(60, -1));
    }

    private static void promise24Gap() {
        BallotLoom x = fourParties();
        CHECKS.due("gap(1, 0)", x.gap(1, 0), 0.16);
        CHECKS.due("gap(0, 3)", x.gap(0, 3), -0.25);
        CHECKS.due("gap(3, 2)", x.gap(3, 2), 0.13);
        CHECKS.due("gap(2, 2)", x.gap(2, 2), 0.0);
        CHECKS.due("without votes", alone(0, 0).gap(0, 1), 0.0);
        CHECKS.indexOut("gap(4, 0)", () -> x.gap(4, 0));
        CHECKS.indexOut("gap(0, 4)", () -> x.gap(0, 4));
        CHECKS.indexOut("gap(-1, 0)", () -> x.gap(-1, 0));
        CHECKS.indexOut("gap(0, -1)", () -> x.gap(0, -1));
    }

    private static void promise25Many() {
        BallotLoom x = fourCandidates(2);
        x.district(3);
        x.threshold(9);
        x.knock();
        x.knock();
        x.seal(true);
        x.withdraw(0);
        int[] due = {4, 3, 2, 5, 1, 22, 12, 9, 1, 2};
        for (int what = 0; what <= 9; what++) {
            CHECKS.due("many(" + what + ")", x.many(what), due[what]);
        }
        CHECKS.badArgument("many(10)", () -> x.many(10));
        CHECKS.badArgument("many(-1)", () -> x.many(-1));
    }
}
