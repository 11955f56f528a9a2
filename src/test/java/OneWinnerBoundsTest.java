/** The bounds that section 2 of the document names, one winner of a district; a test for each sentence. */
final class OneWinnerBoundsTest {
    private static final Checks CHECKS = new Checks("OneWinnerBoundsTest");
    private static final int FIRSTS = 0;
    private static final int POINTS = 1;
    private static final int PATHS = 2;
    private static final int ROUNDS = 3;

    public static void main(String[] args) {
        Sentences.test(OneWinnerBoundsTest.class, CHECKS);
    }

    private static BallotLoom three(int... stacks) {
        return Boxes.box("012", "1", stacks);
    }

    private static BallotLoom four(int... stacks) {
        return Boxes.box("0123", "1", stacks);
    }

    private static void outs(String name, BallotLoom x, int... due) {
        for (int round = 0; round < 6; round++) {
            CHECKS.due(name + ", out " + round, x.out(0, round), round < due.length ? due[round] : -1);
        }
    }

    /** Section 2: "All of a DISTRICT, by the STACKS of it that are not SPOILED" */
    private static void otherStacksAreLeftAside() {
        int[] fair = {0, 321, 4, 0, 132, 3, 0, 213, 2};
        BallotLoom x = Boxes.box("012", "11", fair);
        BallotLoom y = Boxes.box("012", "11", Boxes.joined(fair, 1, 23, 500, 0, 33, 500, 0, 203, 500, 0, 43, 500));
        String difference = AllAnswers.difference(AllAnswers.ofDistrict(y, 0), AllAnswers.ofDistrict(x, 0));
        CHECKS.due("what a stack elsewhere, and spoiled ones, change", difference, "none");
        CHECKS.due("the stack elsewhere counts there", y.firsts(1, 2), 500);
        y.move(3, 0);
        CHECKS.due("and here, as it is moved", y.firsts(0, 2), 502);
        CHECKS.due("no more there", y.firsts(1, 2), 0);
    }

    /** Section 2: "ways are 0 FIRSTS, 1 POINTS, 2 PATHS, 3 ROUNDS." */
    private static void eachWayHasAnotherWinner() {
        // Lists 3 of 2, 1, 3, 0; 3 of 1, 3, 2, 0; 4 of 0, 3, 1, 2; 2 of 3, 2, 0, 1.
        BallotLoom x = four(0, 1423, 3, 0, 1342, 3, 0, 3241, 4, 0, 2134, 2);
        // Firsts 4, 3, 3, 2.
        CHECKS.due("by firsts", x.winner(0, FIRSTS), 0);
        // 12 + 2, 6 + 9 + 4, 9 + 3 + 4, 3 + 6 + 8 + 6.
        CHECKS.due("by points", x.winner(0, POINTS), 3);
        // Steps 1 to 2 (7), 3 to 2 (9), 2 to 0 (8), 3 to 0 (8); 0 and 1, 1 and 3 are level: none comes to 1 or 3.
        CHECKS.due("by paths", x.winner(0, PATHS), 1);
        // 3 goes out, 2 has 5 then; 1 goes out, 2 has 8 of 12 then.
        CHECKS.due("by rounds", x.winner(0, ROUNDS), 2);
        for (int way = 0; way <= 3; way++) {
            CHECKS.due("as it would be, by " + way, x.wouldWin(3, 2134, way), new int[] {0, 3, 1, 2}[way]);
        }
        CHECKS.badArgument("a way of -1", () -> x.winner(0, -1));
        CHECKS.badArgument("a way of 4", () -> x.winner(0, 4));
    }

    /** Section 2: "FIRSTS of a CANDIDATE: COUNTS of LISTS that begin with it." */
    private static void firstsAreOfListsThatBeginWithIt() {
        BallotLoom x = three(0, 1, 1, 0, 321, 500, 0, 2, 40, 0, 12, 7);
        CHECKS.due("1 and 500", x.firsts(0, 0), 501);
        CHECKS.due("40 and 7", x.firsts(0, 1), 47);
        CHECKS.due("in a list, but not first", x.firsts(0, 2), 0);
        x.withdraw(0);
        CHECKS.due("of who is withdrawn", x.firsts(0, 0), 0);
        CHECKS.due("lists begin with the next one then", x.firsts(0, 1), 547);
    }

    /** Section 2: "By the way 0 that one that STANDS with the most wins" */
    private static void mostFirstsWin() {
        CHECKS.due("4 to 3", Boxes.alone(4, 3).winner(0, FIRSTS), 0);
        CHECKS.due("3 to 4", Boxes.alone(3, 4).winner(0, FIRSTS), 1);
        CHECKS.due("none to 1", Boxes.alone(0, 1).winner(0, FIRSTS), 1);
        CHECKS.due("the last of six", Boxes.alone(2, 2, 2, 2, 2, 3).winner(0, FIRSTS), 5);
        CHECKS.due("who is withdrawn does not", Boxes.without(Boxes.alone(9, 1, 2), 0).winner(0, FIRSTS), 2);
    }

    /** Section 2: "(of several the smallest number)." */
    private static void ofSeveralWithMostFirstsTheSmallestNumber() {
        CHECKS.due("3 to 3", Boxes.alone(3, 3).winner(0, FIRSTS), 0);
        CHECKS.due("1 to 3 to 3", Boxes.alone(1, 3, 3).winner(0, FIRSTS), 1);
        CHECKS.due("without a ballot", Boxes.alone(0, 0, 0).winner(0, FIRSTS), 0);
        CHECKS.due("without a ballot, of those that stand",
                Boxes.without(Boxes.alone(0, 0, 0), 0).winner(0, FIRSTS), 1);
    }

    /**
     * Section 2: "POINTS (double) of one that STANDS, with n that STAND: STACK by STACK, from 0.0 on, COUNT times
     * (n less 1 less its place in the LIST, from 0 on)"
     */
    private static void pointsOfThoseInTheList() {
        BallotLoom x = three(0, 231, 500);
        CHECKS.due("no ballot", three().points(0, 1), 0.0);
        CHECKS.due("the first place of 3", x.points(0, 0), 1000.0);
        CHECKS.due("the second place of 3", x.points(0, 2), 500.0);
        CHECKS.due("the last place of 3", x.points(0, 1), 0.0);
        x.cast(0, 312, 1);
        CHECKS.due("stack by stack", x.points(0, 1), 2.0);
        CHECKS.due("one that stands alone", Boxes.alone(500).points(0, 0), 0.0);
        BallotLoom six = Boxes.box("000000", "1", 0, 654321, 1);
        CHECKS.due("the first place of 6", six.points(0, 0), 5.0);
        CHECKS.due("the last place of 6", six.points(0, 5), 0.0);
        six.withdraw(1);
        CHECKS.due("n is 5, as one withdrew", six.points(0, 0), 4.0);
        CHECKS.due("places are those among who stands", six.points(0, 2), 3.0);
        BallotLoom most = Boxes.box("000000", "1");
        for (int k = 0; k < 24; k++) {
            most.cast(0, 1, 500);
        }
        CHECKS.due("the most that there can be", most.points(0, 0), 60000.0);
    }

    /**
     * Section 2: "or, if it is not in the LIST, COUNT times (m less 1) / 2.0, with m of those that STAND not in it."
     */
    private static void pointsOfThoseNotInTheList() {
        CHECKS.due("m is 1", three(0, 21, 500).points(0, 2), 0.0);
        CHECKS.due("m is 2", three(0, 1, 1).points(0, 2), 0.5);
        CHECKS.due("m is 2, 500 times", three(0, 1, 500).points(0, 1), 250.0);
        CHECKS.due("m is 5", Boxes.box("000000", "1", 0, 6, 3).points(0, 0), 6.0);
        BallotLoom empty = Boxes.without(four(0, 1, 3), 0);
        CHECKS.due("m is 3 of 3: an empty list", empty.points(0, 1), 3.0);
        CHECKS.due("m is 2 of 2: an empty list", Boxes.without(empty, 1).points(0, 3), 1.5);
        CHECKS.due("m is 1 of 1: an empty list", Boxes.without(empty, 2).points(0, 3), 0.0);
    }

    /** Section 2: "By the way 1 the most win" */
    private static void mostPointsWin() {
        CHECKS.due("half a point more, for 1", three(0, 1, 1, 0, 32, 1).winner(0, POINTS), 1);
        CHECKS.due("half a point more, for 0", three(0, 31, 1, 0, 2, 1).winner(0, POINTS), 0);
        BallotLoom x = three(0, 1, 1, 0, 32, 1);
        CHECKS.due("points of 0", x.points(0, 0), 2.0);
        CHECKS.due("points of 1", x.points(0, 1), 2.5);
        CHECKS.due("none to one", Boxes.alone(0, 1).winner(0, POINTS), 1);
        CHECKS.due("who is withdrawn does not win", Boxes.without(Boxes.alone(0, 1), 0).winner(0, POINTS), 1);
    }

    /** Section 2: "the most win (of several the smallest number)." */
    private static void ofSeveralWithMostPointsTheSmallestNumber() {
        BallotLoom x = three(0, 2, 1, 0, 1, 1);
        CHECKS.due("points of 0", x.points(0, 0), 2.5);
        CHECKS.due("points of 1", x.points(0, 1), 2.5);
        CHECKS.due("2.5 to 2.5", x.winner(0, POINTS), 0);
        CHECKS.due("1 and 2 are level", three(0, 3, 4, 0, 2, 4).winner(0, POINTS), 1);
        CHECKS.due("without a ballot", three().winner(0, POINTS), 0);
        CHECKS.due("one ballot less for 0", three(0, 1, 3, 0, 2, 4).winner(0, POINTS), 1);
    }

    /**
     * Section 2: "BEATS of one over another one: COUNTS of LISTS in which the first one is, and the other one is not"
     */
    private static void beatsWhoIsNotInTheList() {
        BallotLoom x = four(0, 1, 500, 0, 21, 3);
        CHECKS.due("in both lists alone", x.pair(0, 0, 2, false), 503);
        CHECKS.due("in one list", x.pair(0, 1, 2, false), 3);
        CHECKS.due("not in a list", x.pair(0, 2, 0, false), 0);
        CHECKS.due("both in no list", x.pair(0, 2, 3, false), 0);
        CHECKS.due("both in no list, the other way", x.pair(0, 3, 2, false), 0);
    }

    /** Section 2: "or is behind it." */
    private static void beatsWhoIsBehind() {
        BallotLoom x = three(0, 321, 4, 0, 123, 9);
        CHECKS.due("next behind", x.pair(0, 0, 1, false), 4);
        CHECKS.due("next ahead", x.pair(0, 1, 0, false), 9);
        CHECKS.due("far behind", x.pair(0, 0, 2, false), 4);
        CHECKS.due("far ahead", x.pair(0, 2, 0, false), 9);
        x.withdraw(1);
        CHECKS.due("with one that withdrew between", x.pair(0, 0, 2, false), 4);
        CHECKS.due("over one that withdrew", x.pair(0, 0, 1, false), 0);
    }

    /**
     * Section 2: "A STEP from one to another one that STANDS has the width BEATS, if that is more than BEATS the
     * other way, otherwise 0."
     */
    private static void stepsAreOfThoseThatBeatMore() {
        CHECKS.due("5 to 5", three(0, 21, 5, 0, 12, 5).pair(0, 0, 1, true), 0);
        CHECKS.due("5 to 5, the other way", three(0, 21, 5, 0, 12, 5).pair(0, 1, 0, true), 0);
        CHECKS.due("6 to 5", three(0, 21, 6, 0, 12, 5).pair(0, 0, 1, true), 6);
        CHECKS.due("5 to 6", three(0, 21, 6, 0, 12, 5).pair(0, 1, 0, true), 0);
        CHECKS.due("1 to none", three(0, 1, 1).pair(0, 0, 2, true), 1);
        // 0 beats 1 and 1 beats 2, each with 11 to 9; who withdrew is no step on the way.
        BallotLoom x = three(Boxes.majorities(3, 0, 1, 1, 1, 2, 1));
        CHECKS.due("by way of 1", x.pair(0, 0, 2, true), 3);
        CHECKS.due("as 1 withdrew", Boxes.without(x, 1).pair(0, 0, 2, true), 0);
    }

    /**
     * Section 2: "The PATH from one to another one: the greatest width of a row of STEPS from the one to the other
     * one, a row being as wide as its narrowest STEP"
     */
    private static void pathIsAsWideAsItsNarrowestStep() {
        // 30 ballots, of which 16, 17, 18, 19 and 20 put 0 before 1, 1 before 2 and so on; others are level.
        int[] rising = Boxes.majorities(6, 0, 1, 1, 1, 2, 2, 2, 3, 3, 3, 4, 4, 4, 5, 5);
        BallotLoom x = Boxes.box("000000", "1", rising);
        for (int from = 0; from < 5; from++) {
            for (int to = from + 1; to < 6; to++) {
                CHECKS.due("path " + from + " to " + to, x.pair(0, from, to, true), 16 + from);
            }
        }
        CHECKS.due("beats of the first over the last", x.pair(0, 0, 5, false), 15);
        // 16 ballots: 0 to 1 with 12, 1 to 2 with 11, 0 to 2 with 9.
        BallotLoom y = three(Boxes.majorities(3, 0, 1, 4, 1, 2, 3, 0, 2, 1));
        CHECKS.due("beats of 0 over 2", y.pair(0, 0, 2, false), 9);
        CHECKS.due("the wider of two rows", y.pair(0, 0, 2, true), 11);
        // 16 ballots: 0 to 1 with 9, 1 to 2 with 12, 0 to 2 with 11.
        BallotLoom z = three(Boxes.majorities(3, 0, 1, 1, 1, 2, 4, 0, 2, 3));
        CHECKS.due("the step itself is the wider one", z.pair(0, 0, 2, true), 11);
    }

    /** Section 2: "0 without one wider." */
    private static void noPathIsZero() {
        CHECKS.due("no ballot", three().pair(0, 0, 1, true), 0);
        BallotLoom x = Boxes.box("000000", "1", Boxes.majorities(6, 0, 1, 1, 1, 2, 2, 2, 3, 3, 3, 4, 4, 4, 5, 5));
        for (int from = 1; from < 6; from++) {
            for (int to = 0; to < from; to++) {
                CHECKS.due("path " + from + " to " + to, x.pair(0, from, to, true), 0);
            }
        }
        CHECKS.due("though it beats", x.pair(0, 5, 0, false), 15);
        CHECKS.due("one ballot is wider", three(0, 1, 1).pair(0, 0, 1, true), 1);
    }

    /**
     * Section 2: "By the way 2 wins, of those that STAND and from which the PATH to each other one that STANDS is no
     * narrower than the PATH back"
     */
    private static void widestPathsWin() {
        CHECKS.due("6 to 5", three(0, 21, 6, 0, 12, 5).winner(0, PATHS), 0);
        CHECKS.due("5 to 6", three(0, 21, 5, 0, 12, 6).winner(0, PATHS), 1);
        // Lists 4 of 2, 0, 1; 3 of 0, 1, 2; 2 of 1, 2, 0: steps 2 to 0 (6), 0 to 1 (7), 1 to 2 (5).
        BallotLoom ring = three(0, 213, 4, 0, 321, 3, 0, 132, 2);
        CHECKS.due("2 to 0", ring.pair(0, 2, 0, true), 6);
        CHECKS.due("0 back to 2", ring.pair(0, 0, 2, true), 5);
        CHECKS.due("2 by 0 to 1", ring.pair(0, 2, 1, true), 6);
        CHECKS.due("1 back to 2", ring.pair(0, 1, 2, true), 5);
        CHECKS.due("the last one of the ring", ring.winner(0, PATHS), 2);
        // 2 beats 0 and 1, who are level.
        CHECKS.due("level with one, narrower to the other", three(0, 213, 1, 0, 123, 1).winner(0, PATHS), 2);
        BallotLoom gone = three(0, 23, 5, 0, 12, 1);
        CHECKS.due("2 beats all", gone.winner(0, PATHS), 2);
        CHECKS.due("as 2 withdrew", Boxes.without(gone, 2).winner(0, PATHS), 1);
        CHECKS.due("who is withdrawn does not win", Boxes.without(Boxes.alone(5, 0, 0), 0).winner(0, PATHS), 1);
    }

    /** Section 2: "the one with the smallest number." */
    private static void ofSeveralWithWidestPathsTheSmallestNumber() {
        CHECKS.due("5 to 5", three(0, 21, 5, 0, 12, 5).winner(0, PATHS), 0);
        CHECKS.due("a ring that is level", three(0, 321, 1, 0, 132, 1, 0, 213, 1).winner(0, PATHS), 0);
        CHECKS.due("without a ballot", three().winner(0, PATHS), 0);
        CHECKS.due("1 and 2 are level, 0 is behind", three(0, 132, 5, 0, 123, 5).winner(0, PATHS), 1);
    }

    /** Section 2: "ROUNDS: LISTS are with the first one in them that is still IN (at first all that STAND are)." */
    private static void listsAreWithTheFirstOneThatIsIn() {
        BallotLoom x = three(0, 1, 4, 0, 2, 3, 0, 23, 2);
        outs("4, 3, 2: 2 gives to 1", x, 2);
        CHECKS.due("4, 3, 2: 1 has 5 of 9", x.winner(0, ROUNDS), 1);
        // 3 goes out, and its lists pass by 2, which went out before.
        BallotLoom y = four(0, 1, 5, 0, 2, 4, 0, 3, 1, 0, 234, 2);
        outs("5, 4, 1, 2", y, 2, 3);
        CHECKS.due("5, 4, 1, 2: 1 has 6 of 11", y.winner(0, ROUNDS), 1);
        BallotLoom gone = Boxes.without(three(0, 1, 4, 0, 2, 3, 0, 23, 2), 2);
        outs("2 withdrew", gone);
        CHECKS.due("2 withdrew: 1 has 5 of 9 at once", gone.winner(0, ROUNDS), 1);
    }

    /** Section 2: "If one is with more than half of the COUNTS of LISTS that are with anyone" */
    private static void moreThanHalfWins() {
        outs("5 of 10 is not more than half", Boxes.alone(5, 4, 1), 2);
        outs("6 of 11 is", Boxes.alone(6, 4, 1));
        outs("6 of 12 is not", Boxes.alone(6, 4, 2), 2);
        outs("5 of 9 is", Boxes.alone(4, 5));
        CHECKS.due("5 of 9 wins", Boxes.alone(4, 5).winner(0, ROUNDS), 1);
        // 4 of 9; as 2 is out, its lists are with nobody: 4 of 7.
        BallotLoom x = Boxes.alone(4, 3, 2);
        outs("lists that are with nobody are left aside", x, 2);
        CHECKS.due("4 of 7 wins", x.winner(0, ROUNDS), 0);
        BallotLoom y = Boxes.without(Boxes.alone(3, 2, 1, 500), 3);
        outs("empty lists are left aside: 3 of 6 is not", y, 2);
        outs("empty lists are left aside: 3 of 5 is", Boxes.without(Boxes.alone(3, 2, 0, 500), 3));
    }

    /** Section 2: "or is the only one IN, it wins." */
    private static void theOnlyOneWins() {
        outs("one that stands without a ballot", Boxes.alone(0));
        CHECKS.due("one that stands without a ballot wins", Boxes.alone(0).winner(0, ROUNDS), 0);
        BallotLoom gone = Boxes.without(Boxes.alone(5, 5, 0), 0, 1);
        outs("all others withdrew", gone);
        CHECKS.due("all others withdrew, with their ballots", gone.winner(0, ROUNDS), 2);
        outs("two that stand without a ballot", Boxes.alone(0, 0), 1);
        CHECKS.due("the one that is left of two", Boxes.alone(0, 0).winner(0, ROUNDS), 0);
    }

    /** Section 2: "Otherwise the one with the fewest goes OUT" */
    private static void theFewestGoesOut() {
        outs("3, 1, 2", Boxes.alone(3, 1, 2), 1);
        outs("1, 2, 3", Boxes.alone(1, 2, 3), 0);
        outs("3, 2, 1", Boxes.alone(3, 2, 1), 2);
        // 0 has the most points, but no ballot begins with it.
        BallotLoom x = three(0, 12, 5, 0, 13, 5);
        CHECKS.due("points of 0", x.points(0, 0), 10.0);
        CHECKS.due("who has none goes out, whatever its points", x.out(0, 0), 0);
    }

    /** Section 2: "of several that with the fewest POINTS" */
    private static void ofSeveralTheFewestPointsGoOut() {
        // 2 + 6 + 1.5 and 2 + 1.5 + 6
        BallotLoom x = three(0, 1, 4, 0, 2, 3, 0, 3, 3);
        CHECKS.due("1 and 2 are level in points", x.points(0, 1), x.points(0, 2));
        CHECKS.due("the greater number then", x.out(0, 0), 2);
        BallotLoom y = three(0, 1, 3, 0, 31, 1, 0, 2, 3, 0, 3, 3);
        // 1.5 + 0 + 6 + 1.5 to 1.5 + 1 + 1.5 + 6
        CHECKS.due("points of 1", y.points(0, 1), 9.0);
        CHECKS.due("points of 2", y.points(0, 2), 10.0);
        CHECKS.due("the fewer points, though the smaller number", y.out(0, 0), 1);
        BallotLoom z = Boxes.box("0123", "1", 0, 21, 4, 0, 2, 3, 0, 3, 3);
        // Points 12 + 3 + 3, 8 + 9 + 3, 2 + 3 + 9, 2 + 3 + 3.
        outs("3 without a ballot, then 2 with fewer points than 1", z, 3, 2);
    }

    /** Section 2: "(all of these by those that STAND, as above)" */
    private static void pointsInRoundsAreByAllThatStand() {
        // Lists 1 of 1, 2; 1 of 2; 2 of 3, 0.
        BallotLoom x = four(0, 32, 1, 0, 3, 1, 0, 14, 2);
        CHECKS.due("points of 0", x.points(0, 0), 5.5);
        CHECKS.due("points of 1", x.points(0, 1), 5.0);
        CHECKS.due("points of 2", x.points(0, 2), 6.0);
        CHECKS.due("points of 3", x.points(0, 3), 7.5);
        // By those that are IN 2 and 3 would be level in the third round, and 3 would go out.
        outs("the third round is of 2 with 2 and 3 with 2", x, 0, 1, 2);
        CHECKS.due("3 is left", x.winner(0, ROUNDS), 3);
        // As 0 withdrew: 1 has 2 + 0.5 + 1, 2 has 1 + 2 + 1, and 3 has 0 + 0.5 + 4.
        Boxes.without(x, 0);
        outs("by those that stand then", x, 1, 2);
    }

    /** Section 2: "of several the greatest number; and so on." */
    private static void ofSeveralWithFewestPointsTheGreatestNumber() {
        outs("2, 1, 1", Boxes.alone(2, 1, 1), 2);
        outs("1, 2, 1", Boxes.alone(1, 2, 1), 2);
        outs("1, 1, 2", Boxes.alone(1, 1, 2), 1);
        outs("six without a ballot", Boxes.alone(0, 0, 0, 0, 0, 0), 5, 4, 3, 2, 1);
        CHECKS.due("six without a ballot: who is left", Boxes.alone(0, 0, 0, 0, 0, 0).winner(0, ROUNDS), 0);
        outs("four of six without a ballot", Boxes.without(Boxes.alone(0, 0, 0, 0, 0, 0), 5, 0), 4, 3, 2);
        CHECKS.due("five and five", Boxes.alone(5, 5).winner(0, ROUNDS), 0);
    }

    /** Section 2: "Nobody wins, if none STANDS." */
    private static void nobodyWinsIfNoneStands() {
        BallotLoom none = Boxes.box("", "1");
        BallotLoom gone = Boxes.without(Boxes.alone(5, 3), 0, 1);
        BallotLoom one = Boxes.without(Boxes.alone(5, 3), 0);
        BallotLoom six = Boxes.without(Boxes.full(), 0, 1, 2, 3, 4, 5);
        BallotLoom last = Boxes.without(Boxes.full(), 0, 1, 2, 3, 4);
        for (int way = 0; way <= 3; way++) {
            CHECKS.due("all six withdrew, by " + way, six.winner(3, way), -1);
            CHECKS.due("all but the last one withdrew, by " + way, last.winner(3, way), 5);
            CHECKS.due("no candidate, by " + way, none.winner(0, way), -1);
            CHECKS.due("all withdrew, by " + way, gone.winner(0, way), -1);
            CHECKS.due("one stands, by " + way, one.winner(0, way), 1);
        }
        outs("no candidate", none);
        outs("all withdrew", gone);
    }
}
