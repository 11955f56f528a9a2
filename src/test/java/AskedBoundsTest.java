/** The bounds that promises 11 to 25 name, what is asked; a test for each sentence. */
final class AskedBoundsTest {
    private static final Checks CHECKS = new Checks("AskedBoundsTest");
    private static final Edges EDGES = new Edges(CHECKS);

    public static void main(String[] args) {
        Sentences.test(AskedBoundsTest.class, CHECKS);
    }

    /** Two candidates, one of whom withdrew, and a district; no stack. */
    private static BallotLoom noStack() {
        return Boxes.without(Boxes.box("01", "1"), 1);
    }

    private static BallotLoom noDistrict() {
        return Boxes.box("01", "");
    }

    private static BallotLoom noCandidate() {
        return Boxes.box("", "12");
    }

    private static void ofStack(BallotLoom x, int stack, int... due) {
        for (int what = 0; what <= 5; what++) {
            CHECKS.due("ofStack(" + stack + ", " + what + ")", x.ofStack(stack, what), due[what]);
        }
    }

    /**
     * Promise 11: "stack: a STACK", "what: 0 its DISTRICT, 1 RANKS, 2 COUNT, 3 1 if it is SPOILED, otherwise 0",
     * "Returns that."
     */
    private static void ofStackReturnsWhatItIs() {
        BallotLoom x = Boxes.box("0120", "1111", 3, 4321, 500, 0, 1, 1, 2, 999999, 60, 1, 20, 7);
        ofStack(x, 0, 3, 4321, 500, 0, 4, 0);
        ofStack(x, 1, 0, 1, 1, 0, 1, 0);
        ofStack(x, 2, 2, 999999, 60, 1, 0, -1);
        ofStack(x, 3, 1, 20, 7, 1, 0, -1);
    }

    /** Promise 11: "4 the length of its LIST (0, if it is SPOILED)" */
    private static void ofStackReturnsTheLength() {
        int ranks = 0;
        for (int length = 1; length <= 6; length++) {
            ranks = ranks * 10 + length;
            CHECKS.due("length of " + ranks, Boxes.box("000000", "1", 0, ranks, 1).ofStack(0, 4), length);
        }
        CHECKS.due("six digits, one of them twice", Boxes.box("000000", "1", 0, 654322, 1).ofStack(0, 4), 0);
        CHECKS.due("six digits, one too many", Boxes.box("00000", "1", 0, 654321, 1).ofStack(0, 4), 0);
        BallotLoom x = Boxes.box("000", "1", 0, 321, 1, 0, 331, 1);
        for (int c = 0; c < 3; c++) {
            x.withdraw(c);
            CHECKS.due("as " + (c + 1) + " withdrew", x.ofStack(0, 4), 2 - c);
            CHECKS.due("a spoiled one, as " + (c + 1) + " withdrew", x.ofStack(1, 4), 0);
        }
    }

    /** Promise 11: ", 5 the first one of it (NONE likewise, or if it is EMPTY)" */
    private static void ofStackReturnsTheFirstOne() {
        BallotLoom x = Boxes.box("000", "1", 0, 213, 1, 0, 211, 1, 0, 103, 1);
        CHECKS.due("list 2, 0, 1", x.ofStack(0, 5), 2);
        CHECKS.due("spoiled by a digit that comes twice", x.ofStack(1, 5), -1);
        CHECKS.due("spoiled by a 0", x.ofStack(2, 5), -1);
        x.withdraw(2);
        CHECKS.due("list 0, 1", x.ofStack(0, 5), 0);
        x.withdraw(0);
        CHECKS.due("list 1", x.ofStack(0, 5), 1);
        x.withdraw(1);
        CHECKS.due("an empty list", x.ofStack(0, 5), -1);
    }

    /** Promise 11: "Throws IndexOutOfBoundsException if there is no such STACK" */
    private static void ofStackOfNoStack() {
        EDGES.none(Edges.INDEX, "ofStack", AskedBoundsTest::noStack, (x, v) -> x.ofStack(v, 0));
        EDGES.within(Edges.INDEX, "ofStack of 4", Boxes::some, 0, 3, (x, v) -> x.ofStack(v, 5));
        EDGES.within(Edges.INDEX, "ofStack of 24", Boxes::full, 0, 23, (x, v) -> x.ofStack(v, 0));
    }

    /** Promise 11: "Throws IllegalArgumentException if what is not 0 to 5" */
    private static void ofStackOfNothing() {
        EDGES.within(Edges.ARGUMENT, "ofStack", Boxes::some, 0, 5, (x, v) -> x.ofStack(0, v));
        EDGES.within(Edges.ARGUMENT, "ofStack of a spoiled one", Boxes::some, 0, 5, (x, v) -> x.ofStack(2, v));
    }

    /** Promise 12: "district: a DISTRICT", "candidate: a CANDIDATE", "Returns its FIRSTS there." */
    private static void firstsAreThoseThere() {
        BallotLoom x = Boxes.box("01", "111", 0, 1, 4, 1, 1, 500, 1, 21, 500, 1, 2, 3, 0, 11, 9);
        CHECKS.due("in 0", x.firsts(0, 0), 4);
        CHECKS.due("in 1", x.firsts(1, 0), 1000);
        CHECKS.due("in 2, without a stack", x.firsts(2, 0), 0);
        CHECKS.due("of 1 in 0, none", x.firsts(0, 1), 0);
        CHECKS.due("of 1 in 1", x.firsts(1, 1), 3);
        CHECKS.due("of who withdrew", Boxes.without(x, 0).firsts(1, 0), 0);
        CHECKS.due("of who comes next", x.firsts(1, 1), 503);
    }

    /** Promise 12: "Throws IndexOutOfBoundsException if there is no such DISTRICT" */
    private static void firstsInNoDistrict() {
        EDGES.none(Edges.INDEX, "firsts", AskedBoundsTest::noDistrict, (x, v) -> x.firsts(v, 0));
        EDGES.within(Edges.INDEX, "firsts in one of 2", Boxes::some, 0, 1, (x, v) -> x.firsts(v, 0));
        EDGES.within(Edges.INDEX, "firsts in one of 4", Boxes::full, 0, 3, (x, v) -> x.firsts(v, 5));
    }

    /** Promise 12: ", or CANDIDATE" */
    private static void firstsOfNoCandidate() {
        EDGES.none(Edges.INDEX, "firsts", AskedBoundsTest::noCandidate, (x, v) -> x.firsts(0, v));
        EDGES.within(Edges.INDEX, "firsts of 4", Boxes::some, 0, 3, (x, v) -> x.firsts(0, v));
        EDGES.within(Edges.INDEX, "firsts of 6", Boxes::full, 0, 5, (x, v) -> x.firsts(3, v));
    }

    /** Promise 13: "district: a DISTRICT", "candidate: a CANDIDATE", "Returns its POINTS there" */
    private static void pointsAreThoseThere() {
        BallotLoom x = Boxes.box("012", "111", 0, 1, 3, 1, 321, 500, 1, 123, 1);
        CHECKS.due("in 0", x.points(0, 0), 6.0);
        CHECKS.due("in 0, not in the list", x.points(0, 1), 1.5);
        CHECKS.due("in 1", x.points(1, 0), 1000.0);
        CHECKS.due("in 1, the last one", x.points(1, 2), 2.0);
        CHECKS.due("in 2, without a stack", x.points(2, 0), 0.0);
    }

    /** Promise 13: "; -1.0, if it is WITHDRAWN." */
    private static void pointsOfWhoIsWithdrawn() {
        BallotLoom x = Boxes.without(Boxes.box("012", "11", 0, 321, 5), 0);
        CHECKS.due("in 0", x.points(0, 0), -1.0);
        CHECKS.due("in 1, without a stack", x.points(1, 0), -1.0);
        CHECKS.due("of who stands", x.points(0, 1), 5.0);
        CHECKS.due("of who stands, last", x.points(0, 2), 0.0);
        Boxes.without(x, 1, 2);
        CHECKS.due("of the last one, withdrawn", x.points(0, 2), -1.0);
    }

    /** Promise 13: "Throws IndexOutOfBoundsException if there is no such DISTRICT" */
    private static void pointsInNoDistrict() {
        EDGES.none(Edges.INDEX, "points", AskedBoundsTest::noDistrict, (x, v) -> x.points(v, 0));
        EDGES.within(Edges.INDEX, "points in one of 2", Boxes::some, 0, 1, (x, v) -> x.points(v, 3));
        EDGES.within(Edges.INDEX, "points in one of 4", Boxes::full, 0, 3, (x, v) -> x.points(v, 5));
    }

    /** Promise 13: ", or CANDIDATE" */
    private static void pointsOfNoCandidate() {
        EDGES.none(Edges.INDEX, "points", AskedBoundsTest::noCandidate, (x, v) -> x.points(0, v));
        EDGES.within(Edges.INDEX, "points of 4", Boxes::some, 0, 3, (x, v) -> x.points(0, v));
        EDGES.within(Edges.INDEX, "points of 6", Boxes::full, 0, 5, (x, v) -> x.points(3, v));
    }

    /**
     * Promise 14: "district: a DISTRICT", "one: a CANDIDATE", "other: another one", "isPath: whether the PATH,
     * otherwise BEATS", "Returns that"
     */
    private static void pairIsPathOrBeats() {
        // Lists 4 of 0, 1, 2; 3 of 1, 2, 0; 2 of 2, 0, 1.
        BallotLoom x = Boxes.box("012", "11", 0, 321, 4, 0, 132, 3, 0, 213, 2, 1, 12, 1);
        CHECKS.due("beats of 0 over 2", x.pair(0, 0, 2, false), 4);
        CHECKS.due("path of 0 to 2", x.pair(0, 0, 2, true), 6);
        CHECKS.due("beats of 2 over 0", x.pair(0, 2, 0, false), 5);
        CHECKS.due("path of 2 to 0", x.pair(0, 2, 0, true), 5);
        CHECKS.due("beats of 1 over 0", x.pair(0, 1, 0, false), 3);
        CHECKS.due("path of 1 to 0", x.pair(0, 1, 0, true), 5);
        CHECKS.due("beats of 1 over 0 there", x.pair(1, 1, 0, false), 1);
        CHECKS.due("beats of 0 over 1 there", x.pair(1, 0, 1, false), 0);
    }

    /** Promise 14: "; 0, if one of both is WITHDRAWN." */
    private static void pairOfWhoIsWithdrawn() {
        BallotLoom x = Boxes.without(Boxes.box("0123", "1", 0, 321, 4, 0, 2, 3), 1);
        for (boolean isPath : new boolean[] {false, true}) {
            CHECKS.due("the one is withdrawn " + isPath, x.pair(0, 1, 0, isPath), 0);
            CHECKS.due("the other one is " + isPath, x.pair(0, 0, 1, isPath), 0);
            CHECKS.due("none of both is " + isPath, x.pair(0, 0, 2, isPath), 4);
            CHECKS.due("not even over who is in no list " + isPath, x.pair(0, 1, 3, isPath), 0);
        }
        Boxes.without(x, 0);
        CHECKS.due("both are", x.pair(0, 0, 1, false), 0);
        CHECKS.due("both are, the path", x.pair(0, 1, 0, true), 0);
    }

    /** Promise 14: "Throws IndexOutOfBoundsException if there is no such DISTRICT" */
    private static void pairInNoDistrict() {
        EDGES.none(Edges.INDEX, "pair", AskedBoundsTest::noDistrict, (x, v) -> x.pair(v, 0, 1, false));
        EDGES.within(Edges.INDEX, "pair in one of 2", Boxes::some, 0, 1, (x, v) -> x.pair(v, 0, 1, true));
        EDGES.within(Edges.INDEX, "pair in one of 4", Boxes::full, 0, 3, (x, v) -> x.pair(v, 4, 5, false));
    }

    /** Promise 14: ", or CANDIDATE, of both" */
    private static void pairOfNoCandidate() {
        EDGES.none(Edges.INDEX, "pair", AskedBoundsTest::noCandidate, (x, v) -> x.pair(0, v, 0, true));
        EDGES.none(Edges.INDEX, "pair, the other one", AskedBoundsTest::noCandidate, (x, v) -> x.pair(0, 0, v, true));
        EDGES.within(Edges.INDEX, "the one of 4", Boxes::some, 1, 3, (x, v) -> x.pair(0, v == 0 ? -1 : v, 0, false));
        EDGES.within(Edges.INDEX, "the other one of 4", Boxes::some, 0, 2,
                (x, v) -> x.pair(0, 3, v == 3 ? 4 : v, false));
        EDGES.within(Edges.INDEX, "the one of 6", Boxes::full, 0, 4, (x, v) -> x.pair(0, v == 5 ? 6 : v, 5, true));
        EDGES.within(Edges.INDEX, "the other one of 6", Boxes::full, 1, 5,
                (x, v) -> x.pair(0, 0, v == 0 ? -1 : v, true));
    }

    /** Promise 14: "Throws IllegalArgumentException if both are the same" */
    private static void pairOfTheSame() {
        for (int k = 0; k < 4; k++) {
            int c = k;
            EDGES.refused(Edges.ARGUMENT, "beats of " + c, Boxes::some, x -> x.pair(0, c, c, false));
            EDGES.refused(Edges.ARGUMENT, "path of " + c, Boxes::some, x -> x.pair(1, c, c, true));
        }
        EDGES.allowed("the next one", Boxes::some, x -> x.pair(0, 2, 3, true));
    }

    /** Promise 15: "district: a DISTRICT", "way: a way", "Returns who wins" */
    private static void winnerIsWhoWins() {
        BallotLoom x = Boxes.box("012301", "1111", 0, 1, 1, 1, 6, 1, 2, 3, 500);
        for (int way = 0; way <= 3; way++) {
            CHECKS.due("the first one, by " + way, x.winner(0, way), 0);
            CHECKS.due("the last one, by " + way, x.winner(1, way), 5);
            CHECKS.due("500 ballots, by " + way, x.winner(2, way), 2);
            CHECKS.due("without a stack, by " + way, x.winner(3, way), 0);
        }
    }

    /** Promise 15: "; NONE, if nobody does." */
    private static void winnerIsNobody() {
        BallotLoom x = Boxes.box("01", "1", 0, 21, 5);
        for (int way = 0; way <= 3; way++) {
            CHECKS.due("no candidate, by " + way, noCandidate().winner(1, way), -1);
            CHECKS.due("one stands, by " + way, noStack().winner(0, way), 0);
        }
        Boxes.without(x, 0, 1);
        for (int way = 0; way <= 3; way++) {
            CHECKS.due("none stands, by " + way, x.winner(0, way), -1);
        }
    }

    /** Promise 15: "Throws IndexOutOfBoundsException if there is no such DISTRICT" */
    private static void winnerOfNoDistrict() {
        EDGES.none(Edges.INDEX, "winner", AskedBoundsTest::noDistrict, (x, v) -> x.winner(v, 0));
        for (int w = 0; w <= 3; w++) {
            int way = w;
            EDGES.within(Edges.INDEX, "winner by " + w, Boxes::some, 0, 1, (x, v) -> x.winner(v, way));
        }
        EDGES.within(Edges.INDEX, "winner of one of 4", Boxes::full, 0, 3, (x, v) -> x.winner(v, 3));
    }

    /** Promise 15: "Throws IllegalArgumentException if way is not 0 to 3" */
    private static void winnerByNoWay() {
        EDGES.within(Edges.ARGUMENT, "winner", Boxes::some, 0, 3, (x, v) -> x.winner(1, v));
        EDGES.within(Edges.ARGUMENT, "winner of none", AskedBoundsTest::noCandidate, 0, 3, (x, v) -> x.winner(0, v));
    }

    /**
     * Promise 16: "district: a DISTRICT", "round: which one, from 0 on", "Returns who goes OUT in that one of its
     * ROUNDS (way 3)"
     */
    private static void outIsWhoGoesOut() {
        // 6, 5, 4, 3, 2, 1 of 21: 5 with 1, 4 with 2 and 3 with 3 go out, and 6 of 15 are no half; then 6 of 11 are.
        BallotLoom x = Boxes.box("000000", "11", 0, 1, 6, 0, 2, 5, 0, 3, 4, 0, 4, 3, 0, 5, 2, 0, 6, 1, 1, 2, 1);
        int[] due = {5, 4, 3, 2, -1, -1};
        for (int round = 0; round < 6; round++) {
            CHECKS.due("round " + round, x.out(0, round), due[round]);
            CHECKS.due("in the other one, round " + round, x.out(1, round), -1);
        }
    }

    /** Promise 16: "; NONE, if there is none." */
    private static void outIsNobody() {
        BallotLoom six = Boxes.box("000000", "1");
        CHECKS.due("six without a ballot: the fifth", six.out(0, 4), 1);
        CHECKS.due("six without a ballot: no sixth", six.out(0, 5), -1);
        CHECKS.due("one candidate", noStack().out(0, 0), -1);
        CHECKS.due("no candidate", noCandidate().out(0, 0), -1);
        CHECKS.due("two: the first", Boxes.alone(0, 0).out(0, 0), 1);
        CHECKS.due("two: no second", Boxes.alone(0, 0).out(0, 1), -1);
        CHECKS.due("more than half at once", Boxes.alone(2, 1).out(0, 0), -1);
    }

    /** Promise 16: "Throws IndexOutOfBoundsException if there is no such DISTRICT" */
    private static void outInNoDistrict() {
        EDGES.none(Edges.INDEX, "out", AskedBoundsTest::noDistrict, (x, v) -> x.out(v, 0));
        EDGES.within(Edges.INDEX, "out in one of 2", Boxes::some, 0, 1, (x, v) -> x.out(v, 0));
        EDGES.within(Edges.INDEX, "out in one of 4", Boxes::full, 0, 3, (x, v) -> x.out(v, 5));
    }

    /** Promise 16: "Throws IllegalArgumentException if round is not 0 to 5" */
    private static void outInNoRound() {
        EDGES.within(Edges.ARGUMENT, "out", Boxes::some, 0, 5, (x, v) -> x.out(0, v));
        EDGES.within(Edges.ARGUMENT, "out of none", AskedBoundsTest::noCandidate, 0, 5, (x, v) -> x.out(0, v));
    }

    /**
     * Promise 17: "district: a DISTRICT", "seat: which one, from 0 on", "Returns who is ELECTED as that one, by
     * transfers"
     */
    private static void electedIsWhoGetsTheSeat() {
        BallotLoom x = Boxes.box("000000", "15", 0, 2, 1, 1, 6, 5, 1, 5, 4, 1, 4, 3, 1, 3, 2, 1, 2, 1);
        CHECKS.due("the one seat", x.elected(0, 0), 1);
        for (int seat = 0; seat < 5; seat++) {
            CHECKS.due("seat " + seat, x.elected(1, seat), 5 - seat);
        }
    }

    /** Promise 17: "; NONE, if nobody is." */
    private static void electedIsNobody() {
        for (int seats = 1; seats <= 4; seats++) {
            BallotLoom x = Boxes.box("000000", String.valueOf(seats));
            CHECKS.due(seats + " seats, the last one", x.elected(0, seats - 1), seats - 1);
            CHECKS.due(seats + " seats, none behind it", x.elected(0, seats), -1);
        }
        CHECKS.due("5 seats, one stands: seat 0", Boxes.box("0", "5").elected(0, 0), 0);
        CHECKS.due("5 seats, one stands: seat 1", Boxes.box("0", "5").elected(0, 1), -1);
        CHECKS.due("no candidate", noCandidate().elected(0, 0), -1);
        CHECKS.due("all withdrew", Boxes.without(noStack(), 0).elected(0, 0), -1);
    }

    /** Promise 17: "Throws IndexOutOfBoundsException if there is no such DISTRICT" */
    private static void electedInNoDistrict() {
        EDGES.none(Edges.INDEX, "elected", AskedBoundsTest::noDistrict, (x, v) -> x.elected(v, 0));
        EDGES.within(Edges.INDEX, "elected in one of 2", Boxes::some, 0, 1, (x, v) -> x.elected(v, 0));
        EDGES.within(Edges.INDEX, "elected in one of 4", Boxes::full, 0, 3, (x, v) -> x.elected(v, 4));
    }

    /** Promise 17: "Throws IllegalArgumentException if seat is not 0 to 4" */
    private static void electedForNoSeat() {
        EDGES.within(Edges.ARGUMENT, "elected, one seat", Boxes::some, 0, 4, (x, v) -> x.elected(1, v));
        EDGES.within(Edges.ARGUMENT, "elected, five seats", Boxes::full, 0, 4, (x, v) -> x.elected(2, v));
    }

    /** Promise 18: "stack: a STACK", "Returns its WORTH, as all SEATS of its DISTRICT have gone by transfers" */
    private static void worthIsThatAtTheEnd() {
        // Of 6 in district 0 the quota is 4, of 8 in district 1 with 2 seats 3.
        BallotLoom x = Boxes.box("0123", "12", 0, 1, 6, 1, 2, 8, 0, 11, 3);
        CHECKS.due("in 0", x.worth(0), 2.0);
        CHECKS.due("in 1", x.worth(1), 5.0);
        x.move(0, 1);
        // 14 in district 1: quota 5, both are elected.
        CHECKS.due("as it is moved", x.worth(0), 1.0);
        CHECKS.due("the other one then", x.worth(1), 3.0);
        x.recount(0, 1);
        CHECKS.due("as it is recounted: not above the quota 4", x.worth(0), 0.0);
        // Both of 2 seats are asked for: the list 1, 0 is lowered twice. 12 ballots, quota 5: 8 * 3 / 8, then
        // 4 and 3: 3 * 2 / 7 is 877 parts of 1024.
        BallotLoom both = Boxes.box("0123", "2", 0, 12, 8, 0, 1, 4);
        CHECKS.due("lowered by both seats", both.worth(0), 877 / 1024.0);
    }

    /** Promise 18: "(0.0, if it is SPOILED)." */
    private static void worthOfASpoiledOne() {
        CHECKS.due("a digit twice", Boxes.box("01", "1", 0, 11, 500).worth(0), 0.0);
        CHECKS.due("a digit too high", Boxes.box("01", "1", 0, 3, 500).worth(0), 0.0);
        CHECKS.due("a digit 0", Boxes.box("01", "1", 0, 10, 500).worth(0), 0.0);
        CHECKS.due("no candidate", Boxes.box("", "1", 0, 1, 500).worth(0), 0.0);
        CHECKS.due("an empty list is not spoiled", Boxes.without(Boxes.box("01", "1", 0, 1, 500), 0).worth(0), 500.0);
        BallotLoom x = Boxes.box("01", "1", 0, 11, 500);
        x.wouldWin(0, 21, 0);
        x.lie(0, 0);
        CHECKS.due("after what would be", x.worth(0), 0.0);
    }

    /** Promise 18: "Throws IndexOutOfBoundsException if there is no such STACK" */
    private static void worthOfNoStack() {
        EDGES.none(Edges.INDEX, "worth", AskedBoundsTest::noStack, (x, v) -> x.worth(v));
        EDGES.within(Edges.INDEX, "worth of 4", Boxes::some, 0, 3, (x, v) -> x.worth(v));
        EDGES.within(Edges.INDEX, "worth of 24", Boxes::full, 0, 23, (x, v) -> x.worth(v));
    }

    /**
     * Promise 19: "party: a PARTY", "what: 0 its VOTES, 1 its CANDIDATES that STAND, 2 its DIRECT SEATS, 3 WASTED",
     * "Returns that."
     */
    private static void ofPartyReturnsWhatItIs() {
        BallotLoom x = Boxes.without(Boxes.box("033013", "111", 0, 1, 9, 0, 2, 1, 1, 3, 4, 1, 5, 3, 1, 1, 2), 5);
        int[][] due = {{11, 2, 1, 3 + 2}, {3, 1, 0, 3}, {0, 0, 0, 0}, {5, 2, 1, 1}};
        for (int party = 0; party < 4; party++) {
            for (int what = 0; what <= 3; what++) {
                CHECKS.due("ofParty(" + party + ", " + what + ")", x.ofParty(party, what), due[party][what]);
            }
        }
    }

    /** Promise 19: ", 4 1 if it is BARRED, otherwise 0" */
    private static void ofPartyReturnsWhetherItIsBarred() {
        BallotLoom x = Boxes.alone(20, 80);
        x.threshold(20);
        CHECKS.due("20 of 100", x.ofParty(0, 4), 0);
        CHECKS.due("80 of 100", x.ofParty(1, 4), 0);
        CHECKS.due("0 of 100", x.ofParty(2, 4), 1);
        x.recount(1, 81);
        CHECKS.due("20 of 101", x.ofParty(0, 4), 1);
        x.threshold(0);
        CHECKS.due("0 of 101, at 0", x.ofParty(2, 4), 0);
    }

    /** Promise 19: "Throws IndexOutOfBoundsException if party is not 0 to 3" */
    private static void ofPartyOfNoParty() {
        EDGES.within(Edges.INDEX, "ofParty", BallotLoom::new, 0, 3, (x, v) -> x.ofParty(v, 0));
        EDGES.within(Edges.INDEX, "ofParty", Boxes::full, 0, 3, (x, v) -> x.ofParty(v, 4));
    }

    /** Promise 19: "Throws IllegalArgumentException if what is not 0 to 4" */
    private static void ofPartyOfNothing() {
        EDGES.within(Edges.ARGUMENT, "ofParty", BallotLoom::new, 0, 4, (x, v) -> x.ofParty(0, v));
        EDGES.within(Edges.ARGUMENT, "ofParty", Boxes::full, 0, 4, (x, v) -> x.ofParty(3, v));
    }

    /** Promise 20: "party: a PARTY", "house: n", "rule: a rule", "Returns its SEATS in that HOUSE." */
    private static void shareReturnsTheSeats() {
        BallotLoom x = Boxes.alone(53, 24, 0, 23);
        int[][] due = {{4, 2, 0, 1}, {3, 2, 0, 2}, {4, 2, 0, 1}};
        for (int rule = 0; rule <= 2; rule++) {
            for (int party = 0; party < 4; party++) {
                CHECKS.due("7 seats by " + rule + ", party " + party, x.share(party, 7, rule), due[rule][party]);
                CHECKS.due("1 seat by " + rule + ", party " + party, x.share(party, 1, rule), party == 0 ? 1 : 0);
            }
        }
    }

    /** Promise 20: "Throws IndexOutOfBoundsException if party is not 0 to 3" */
    private static void shareOfNoParty() {
        EDGES.within(Edges.INDEX, "share", BallotLoom::new, 0, 3, (x, v) -> x.share(v, 1, 0));
        EDGES.within(Edges.INDEX, "share", Boxes::full, 0, 3, (x, v) -> x.share(v, 60, 2));
    }

    /** Promise 20: "Throws IllegalArgumentException if house is not 1 to 60" */
    private static void shareOfNoHouse() {
        for (int r = 0; r <= 2; r++) {
            int rule = r;
            EDGES.within(Edges.ARGUMENT, "share by " + r, Boxes::full, 1, 60, (x, v) -> x.share(0, v, rule));
        }
        EDGES.within(Edges.ARGUMENT, "share of nobody", BallotLoom::new, 1, 60, (x, v) -> x.share(3, v, 0));
    }

    /** Promise 20: ", or rule not 0 to 2" */
    private static void shareByNoRule() {
        EDGES.within(Edges.ARGUMENT, "share", Boxes::full, 0, 2, (x, v) -> x.share(0, 20, v));
        EDGES.within(Edges.ARGUMENT, "share of nobody", BallotLoom::new, 0, 2, (x, v) -> x.share(0, 20, v));
    }

    /** Promise 21: "house: n", "rule: a rule", "Returns the OVERHANG." */
    private static void overhangIsThatOfTheHouse() {
        // Three districts for 0 with 1 each, one for 1 with 97: shares of 60 by 0 are 1 and 59, by 1 and 2 2 and 58.
        BallotLoom x = Boxes.box("01", "1111", 0, 1, 1, 1, 1, 1, 2, 1, 1, 3, 2, 97);
        CHECKS.due("share of 60 by 0", x.share(0, 60, 0), 1);
        CHECKS.due("60 by 0", x.overhang(60, 0), 2);
        CHECKS.due("share of 60 by 1", x.share(0, 60, 1), 2);
        CHECKS.due("60 by 1", x.overhang(60, 1), 1);
        CHECKS.due("60 by 2", x.overhang(60, 2), 1);
        CHECKS.due("1 by 2", x.overhang(1, 2), 3);
        CHECKS.due("without a ballot", Boxes.alone(0, 0).overhang(1, 2), 0);
    }

    /** Promise 21: "Throws IllegalArgumentException if house is not 1 to 60" */
    private static void overhangOfNoHouse() {
        EDGES.within(Edges.ARGUMENT, "overhang", Boxes::full, 1, 60, (x, v) -> x.overhang(v, 0));
        EDGES.within(Edges.ARGUMENT, "overhang of nobody", BallotLoom::new, 1, 60, (x, v) -> x.overhang(v, 2));
    }

    /** Promise 21: ", or rule not 0 to 2" */
    private static void overhangByNoRule() {
        EDGES.within(Edges.ARGUMENT, "overhang", Boxes::full, 0, 2, (x, v) -> x.overhang(60, v));
        EDGES.within(Edges.ARGUMENT, "overhang of nobody", BallotLoom::new, 0, 2, (x, v) -> x.overhang(1, v));
    }

    /** Promise 22: "party: a PARTY", "house: n", "rule: a rule", "Returns its SWINGS." */
    private static void swingsAreThoseOfTheParty() {
        // 53, 24, 23 of 7 seats: 4, 2, 1 by 0 and 2, where 0 rules alone; 3, 2, 2 by 1, where two rule together.
        BallotLoom x = Boxes.alone(53, 24, 0, 23);
        int[][] due = {{8, 0, 0, 0}, {4, 4, 0, 4}, {8, 0, 0, 0}};
        for (int rule = 0; rule <= 2; rule++) {
            for (int party = 0; party < 4; party++) {
                CHECKS.due("7 seats by " + rule + ", party " + party, x.swings(party, 7, rule), due[rule][party]);
            }
        }
        CHECKS.due("of 4 seats by 1: 2, 1, 1: 0", x.swings(0, 4, 1), 6);
        CHECKS.due("of 4 seats by 1: 2, 1, 1: 1", x.swings(1, 4, 1), 2);
    }

    /** Promise 22: "Throws IndexOutOfBoundsException if party is not 0 to 3" */
    private static void swingsOfNoParty() {
        EDGES.within(Edges.INDEX, "swings", BallotLoom::new, 0, 3, (x, v) -> x.swings(v, 1, 0));
        EDGES.within(Edges.INDEX, "swings", Boxes::full, 0, 3, (x, v) -> x.swings(v, 60, 2));
    }

    /** Promise 22: "Throws IllegalArgumentException if house is not 1 to 60" */
    private static void swingsOfNoHouse() {
        EDGES.within(Edges.ARGUMENT, "swings", Boxes::full, 1, 60, (x, v) -> x.swings(0, v, 1));
        EDGES.within(Edges.ARGUMENT, "swings of nobody", BallotLoom::new, 1, 60, (x, v) -> x.swings(3, v, 2));
    }

    /** Promise 22: ", or rule not 0 to 2" */
    private static void swingsByNoRule() {
        EDGES.within(Edges.ARGUMENT, "swings", Boxes::full, 0, 2, (x, v) -> x.swings(0, 20, v));
        EDGES.within(Edges.ARGUMENT, "swings of nobody", BallotLoom::new, 0, 2, (x, v) -> x.swings(0, 20, v));
    }

    /** Promise 23: "house: n", "rule: a rule", "Returns the set of PARTIES that RULES with the fewest PARTIES" */
    private static void coalitionHasTheFewestParties() {
        CHECKS.due("one that rules alone", Boxes.alone(3, 1, 1).coalition(5, 2), 1);
        CHECKS.due("the last one alone", Boxes.alone(1, 1, 0, 3).coalition(5, 2), 8);
        CHECKS.due("half is not enough: two", Boxes.alone(3, 1, 2).coalition(6, 2), 3);
        CHECKS.due("two are not enough: three", Boxes.alone(1, 1, 1, 1).coalition(4, 2), 7);
        CHECKS.due("1 of 1", Boxes.alone(0, 0, 5).coalition(1, 0), 4);
        CHECKS.due("one with more seats before two with fewer", Boxes.alone(2, 2, 6).coalition(10, 2), 4);
    }

    /** Promise 23: ", of several with the fewest SEATS" */
    private static void coalitionHasTheFewestSeats() {
        // 4, 3, 2, 2 of 11: 6 rule: 0 with 2 or with 3 has 6, with 1 it has 7.
        CHECKS.due("0 and 2", Boxes.alone(4, 3, 2, 2).coalition(11, 2), 5);
        // 3, 2, 4, 2 of 11: 2 and 1 have 6, 2 and 3 too, 0 and 2 have 7.
        CHECKS.due("1 and 2", Boxes.alone(3, 2, 4, 2).coalition(11, 2), 6);
        // 4, 4, 2, 1 of 11: 0 and 2 have 6.
        CHECKS.due("0 and 2, not 0 and 1", Boxes.alone(4, 4, 2, 1).coalition(11, 2), 5);
        CHECKS.due("one seat fewer", Boxes.alone(4, 3, 2, 1).coalition(10, 2), 5);
    }

    /** Promise 23: ", of several the smallest one" */
    private static void coalitionIsTheSmallestOne() {
        CHECKS.due("any two of three", Boxes.alone(1, 1, 1).coalition(3, 2), 3);
        CHECKS.due("any two of the last three", Boxes.alone(0, 1, 1, 1).coalition(3, 2), 6);
        CHECKS.due("1 and 3, or 2 and 3", Boxes.alone(1, 2, 2, 3).coalition(8, 2), 10);
        CHECKS.due("any three of four", Boxes.alone(1, 1, 1, 1).coalition(60, 2), 7);
    }

    /** Promise 23: "; 0 without any." */
    private static void coalitionOfNobody() {
        for (int rule = 0; rule <= 2; rule++) {
            CHECKS.due("a new box", new BallotLoom().coalition(1, rule), 0);
            CHECKS.due("no ballot", Boxes.alone(0, 0).coalition(60, rule), 0);
            CHECKS.due("one ballot", Boxes.alone(0, 1).coalition(60, rule), 2);
        }
    }

    /** Promise 23: "Throws IllegalArgumentException if house is not 1 to 60" */
    private static void coalitionOfNoHouse() {
        EDGES.within(Edges.ARGUMENT, "coalition", Boxes::full, 1, 60, (x, v) -> x.coalition(v, 1));
        EDGES.within(Edges.ARGUMENT, "coalition of nobody", BallotLoom::new, 1, 60, (x, v) -> x.coalition(v, 2));
    }

    /** Promise 23: ", or rule not 0 to 2" */
    private static void coalitionByNoRule() {
        EDGES.within(Edges.ARGUMENT, "coalition", Boxes::full, 0, 2, (x, v) -> x.coalition(20, v));
        EDGES.within(Edges.ARGUMENT, "coalition of nobody", BallotLoom::new, 0, 2, (x, v) -> x.coalition(20, v));
    }

    /**
     * Promise 24: "one: a PARTY", "other: another one", "Returns WASTED of the one less that of the other one,
     * divided by the VOTES of all (as doubles)"
     */
    private static void gapIsOfTheVotesOfAll() {
        // Of 10 votes 1 and 3 are wasted.
        BallotLoom x = Boxes.alone(7, 3);
        CHECKS.due("1 less 3 of 10", x.gap(0, 1), -2 / 10.0);
        CHECKS.due("3 less 1 of 10", x.gap(1, 0), 2 / 10.0);
        CHECKS.due("1 less 0 of 10", x.gap(0, 2), 1 / 10.0);
        CHECKS.due("0 less 3 of 10", x.gap(3, 1), -3 / 10.0);
        CHECKS.due("0 less 0 of 10", x.gap(2, 3), 0.0);
        CHECKS.due("both are the same, which no exception is named for", x.gap(1, 1), 0.0);
        x.threshold(20);
        x.recount(1, 1);
        // Of 8 votes 2 and 1 are wasted; who is barred counts.
        CHECKS.due("2 less 1 of 8", x.gap(0, 1), 1 / 8.0);
        CHECKS.due("1 of 3", Boxes.alone(2, 1).gap(1, 0), 1 / 3.0);
    }

    /** Promise 24: "; 0.0 without VOTES." */
    private static void gapWithoutVotes() {
        CHECKS.due("a new box", new BallotLoom().gap(0, 1), 0.0);
        CHECKS.due("no ballot", Boxes.alone(0, 0).gap(1, 0), 0.0);
        CHECKS.due("spoiled ones", Boxes.box("01", "1", 0, 11, 9).gap(0, 1), 0.0);
        CHECKS.due("empty lists", Boxes.without(Boxes.alone(5, 3), 0, 1).gap(0, 1), 0.0);
        CHECKS.due("one vote, not wasted", Boxes.alone(1, 0).gap(0, 1), 0.0);
        CHECKS.due("two votes, one wasted", Boxes.alone(1, 1).gap(1, 0), 0.5);
    }

    /** Promise 24: "Throws IndexOutOfBoundsException if one or other is not 0 to 3" */
    private static void gapOfNoParty() {
        EDGES.within(Edges.INDEX, "gap, the one", BallotLoom::new, 0, 3, (x, v) -> x.gap(v, 1));
        EDGES.within(Edges.INDEX, "gap, the other one", BallotLoom::new, 0, 3, (x, v) -> x.gap(1, v));
        EDGES.within(Edges.INDEX, "gap, the one", Boxes::full, 0, 3, (x, v) -> x.gap(v, 3));
        EDGES.within(Edges.INDEX, "gap, the other one", Boxes::full, 0, 3, (x, v) -> x.gap(0, v));
        EDGES.refused(Edges.INDEX, "both", Boxes::full, x -> x.gap(4, -1));
    }

    /** Promise 25: "what: 0 CANDIDATES, 1 those that STAND, 2 DISTRICTS, 3 STACKS" */
    private static void manyCountsWhatIsTold() {
        BallotLoom x = Boxes.without(Boxes.full(), 0, 5);
        CHECKS.due("candidates", x.many(0), 6);
        CHECKS.due("those that stand", x.many(1), 4);
        CHECKS.due("districts", x.many(2), 4);
        CHECKS.due("stacks", x.many(3), 24);
        CHECKS.due("none stands", Boxes.without(x, 1, 2, 3, 4).many(1), 0);
        CHECKS.due("all are candidates still", x.many(0), 6);
    }

    /** Promise 25: ", 4 SPOILED ones, 5 COUNTS of all STACKS (of SPOILED ones, too)" */
    private static void manyCountsSpoiledOnesToo() {
        BallotLoom x = Boxes.box("01", "11", 0, 1, 5, 1, 11, 7, 0, 3, 500, 1, 2, 1);
        CHECKS.due("spoiled ones", x.many(4), 2);
        CHECKS.due("counts of all", x.many(5), 513);
        Boxes.without(x, 0, 1);
        CHECKS.due("empty ones are not spoiled", x.many(4), 2);
        CHECKS.due("counts of empty ones, too", x.many(5), 513);
        BallotLoom most = Boxes.box("", "1");
        for (int k = 0; k < 24; k++) {
            most.cast(0, 1, 500);
        }
        CHECKS.due("all are spoiled", most.many(4), 24);
        CHECKS.due("the most counts", most.many(5), 12000);
    }

    /** Promise 25: ", 6 those of LISTS that are not EMPTY" */
    private static void manyCountsListsThatAreNotEmpty() {
        BallotLoom x = Boxes.box("01", "11", 0, 1, 5, 1, 21, 7, 0, 22, 500, 1, 2, 1);
        CHECKS.due("without spoiled ones", x.many(6), 13);
        CHECKS.due("without empty ones", Boxes.without(x, 0).many(6), 8);
        CHECKS.due("all are empty", Boxes.without(x, 1).many(6), 0);
        BallotLoom most = Boxes.box("0", "1");
        for (int k = 0; k < 24; k++) {
            most.cast(0, 1, 500);
        }
        CHECKS.due("the most", most.many(6), 12000);
    }

    /** Promise 25: ", 7 THRESHOLD, 8 1 if the box is SEALED, otherwise 0, 9 how many were REFUSED", "Returns that." */
    private static void manyTellsOfTheBox() {
        BallotLoom x = Boxes.some();
        CHECKS.due("threshold at first", x.many(7), 0);
        CHECKS.due("open at first", x.many(8), 0);
        CHECKS.due("nobody refused at first", x.many(9), 0);
        x.threshold(20);
        x.seal(true);
        x.knock();
        CHECKS.due("threshold", x.many(7), 20);
        CHECKS.due("sealed", x.many(8), 1);
        CHECKS.due("refused", x.many(9), 1);
        x.threshold(1);
        x.seal(false);
        x.knock();
        CHECKS.due("threshold then", x.many(7), 1);
        CHECKS.due("open then", x.many(8), 0);
        CHECKS.due("refused then", x.many(9), 2);
    }

    /** Promise 25: "Throws IllegalArgumentException if what is not 0 to 9" */
    private static void manyOfNothing() {
        EDGES.within(Edges.ARGUMENT, "many", BallotLoom::new, 0, 9, (x, v) -> x.many(v));
        EDGES.within(Edges.ARGUMENT, "many", () -> Boxes.sealed(Boxes.full()), 0, 9, (x, v) -> x.many(v));
    }

    /** Terms: "If several exceptions apply, the one that is named first is thrown." Those of promises 11 to 17. */
    private static void districtsAndStacksAreNamedFirst() {
        EDGES.refused(Edges.INDEX, "stack and what", Boxes::some, x -> x.ofStack(4, 6));
        EDGES.refused(Edges.INDEX, "stack -1 and what -1", Boxes::some, x -> x.ofStack(-1, -1));
        EDGES.refused(Edges.INDEX, "no stack and what", AskedBoundsTest::noStack, x -> x.ofStack(0, 6));
        EDGES.refused(Edges.INDEX, "district and the same", Boxes::some, x -> x.pair(2, 1, 1, true));
        EDGES.refused(Edges.INDEX, "candidate and the same", Boxes::some, x -> x.pair(0, 4, 4, true));
        EDGES.refused(Edges.INDEX, "candidate -1 and the same", Boxes::some, x -> x.pair(0, -1, -1, false));
        EDGES.refused(Edges.INDEX, "district and way", Boxes::some, x -> x.winner(2, 4));
        EDGES.refused(Edges.INDEX, "district -1 and way -1", Boxes::some, x -> x.winner(-1, -1));
        EDGES.refused(Edges.INDEX, "district and round", Boxes::some, x -> x.out(2, 6));
        EDGES.refused(Edges.INDEX, "district -1 and round -1", Boxes::some, x -> x.out(-1, -1));
        EDGES.refused(Edges.INDEX, "district and seat", Boxes::some, x -> x.elected(2, 5));
        EDGES.refused(Edges.INDEX, "district -1 and seat -1", Boxes::some, x -> x.elected(-1, -1));
    }

    /** Terms: "If several exceptions apply, the one that is named first is thrown." Those of promises 19 to 22. */
    private static void partiesAreNamedFirst() {
        EDGES.refused(Edges.INDEX, "party and what", Boxes::some, x -> x.ofParty(4, 5));
        EDGES.refused(Edges.INDEX, "party -1 and what -1", Boxes::some, x -> x.ofParty(-1, -1));
        EDGES.refused(Edges.INDEX, "share: party and house", Boxes::some, x -> x.share(4, 0, 0));
        EDGES.refused(Edges.INDEX, "share: party and rule", Boxes::some, x -> x.share(-1, 1, 3));
        EDGES.refused(Edges.INDEX, "share: all of them", Boxes::some, x -> x.share(4, 61, -1));
        EDGES.refused(Edges.ARGUMENT, "share: house and rule", Boxes::some, x -> x.share(3, 61, 3));
        EDGES.refused(Edges.INDEX, "swings: party and house", Boxes::some, x -> x.swings(4, 0, 0));
        EDGES.refused(Edges.INDEX, "swings: party and rule", Boxes::some, x -> x.swings(-1, 1, 3));
        EDGES.refused(Edges.INDEX, "swings: all of them", Boxes::some, x -> x.swings(4, 61, -1));
        EDGES.refused(Edges.ARGUMENT, "swings: house and rule", Boxes::some, x -> x.swings(3, 0, -1));
    }
}
