/** The bounds that "What it is", "Terms" and section 1 of the document name; a test for each sentence. */
final class BallotsBoundsTest {
    private static final Checks CHECKS = new Checks("BallotsBoundsTest");
    private static final Edges EDGES = new Edges(CHECKS);

    public static void main(String[] args) {
        Sentences.test(BallotsBoundsTest.class, CHECKS);
    }

    /**
     * What it is: "An object is used for at most 512 calls after it has been made; what later calls answer is free."
     */
    private static void the512thCallIsAnsweredYet() {
        BallotLoom x = new BallotLoom();
        for (int k = 1; k <= 511; k++) {
            x.knock();
        }
        CHECKS.due("the 512th call", x.knock(), 512);
        BallotLoom y = Boxes.full();
        // 6 candidates, 4 districts and 24 stacks were 34 calls.
        for (int k = 34; k < 511; k++) {
            y.lie(k % 24, k % 4);
        }
        CHECKS.due("digest() as the 512th call", y.digest(), Boxes.full().digest());
    }

    /** Terms: "Whole numbers, where no double is named; these are reckoned as such in the order that is told." */
    private static void doublesKeepTheirParts() {
        BallotLoom x = Boxes.alone(1, 2, 0);
        CHECKS.due("a half of one ballot", x.points(0, 2), 0.5 + 1.0);
        CHECKS.due("a third", x.gap(0, 1), 1 / 3.0);
        // Held 3, of them quota 2: 1024 * 2 / 3 is 682.67, and 1024 / 3 is 341.33.
        BallotLoom y = Boxes.box("01", "1", 0, 1, 2, 0, 21, 1);
        CHECKS.due("parts of 1024", y.worth(0), 682 / 1024.0);
        CHECKS.due("parts of 1024, of one ballot", y.worth(1), 341 / 1024.0);
    }

    /** Terms: "What is whole is rounded down as it is divided." */
    private static void wholeIsRoundedDown() {
        // Quota: 3 / 2 is 1, and 1: of 3 held 1 is above; 4 / 2 is 2, and 1: of 4 held 1 is above.
        CHECKS.due("quota of 3 ballots is 2", Boxes.alone(3, 0).worth(0), 1.0);
        CHECKS.due("quota of 4 ballots is 3", Boxes.alone(4, 0).worth(0), 1.0);
        // Half of 3 is 1, and 1: of 3 votes 1 is above; half of 4 is 2, and 1: of 4 votes 1 is above.
        CHECKS.due("half of 3 votes is 1", Boxes.alone(3, 0).ofParty(0, 3), 1);
        CHECKS.due("half of 4 votes is 2", Boxes.alone(4, 0).ofParty(0, 3), 1);
        // 2 * 4 / 9 and 2 * 5 / 9 are 0 and 1, and 8 of 9 is the greater remainder.
        CHECKS.due("8 / 9 of a seat is none at first, and the greater remainder", Boxes.alone(4, 5).share(0, 2, 2), 1);
        CHECKS.due("10 / 9 of a seat is 1, and the smaller remainder", Boxes.alone(4, 5).share(1, 2, 2), 1);
    }

    /** Terms: "NONE is -1." */
    private static void noneIsMinusOne() {
        BallotLoom x = Boxes.without(Boxes.box("0", "1", 0, 1, 5, 0, 9, 5), 0);
        CHECKS.due("no first one of an empty list", x.ofStack(0, 5), -1);
        CHECKS.due("no first one of a spoiled stack", x.ofStack(1, 5), -1);
        CHECKS.due("nobody goes out", x.out(0, 0), -1);
        CHECKS.due("nobody is elected", x.elected(0, 0), -1);
        CHECKS.due("no margin", x.margin(0), -1);
        CHECKS.due("no lie", x.lie(0, 0), -1);
        for (int way = 0; way <= 3; way++) {
            CHECKS.due("nobody wins by " + way, x.winner(0, way), -1);
            CHECKS.due("nobody would win by " + way, x.wouldWin(0, 1, way), -1);
        }
    }

    /** Terms: "A set is the sum of 2^k." */
    private static void setIsSumOfPowers() {
        for (int k = 0; k < 4; k++) {
            int[] counts = {25, 25, 25, 25};
            counts[k] = 1;
            CHECKS.due("party " + k + " alone is barred", Boxes.alone(counts).threshold(20), 1 << k);
            int[] one = new int[4];
            one[k] = 9;
            CHECKS.due("all but party " + k + " are barred", Boxes.alone(one).threshold(1), 15 - (1 << k));
            CHECKS.due("party " + k + " alone rules", Boxes.alone(one).coalition(5, 0), 1 << k);
        }
        CHECKS.due("the empty set", Boxes.alone(25, 25, 25, 25).threshold(20), 0);
        CHECKS.due("parties 0 and 3 rule", Boxes.alone(3, 2, 2, 3).coalition(10, 2), 9);
    }

    /** Terms: "A method that throws an exception changes nothing." */
    private static void refusedCallsTogetherChangeNothing() {
        EDGES.refused(Edges.STATE, "a refused call of each kind", () -> Boxes.sealed(Boxes.full()), x -> {
            Edges.Call[] calls = {
                b -> b.candidate(4), b -> b.withdraw(6), b -> b.district(6), b -> b.cast(4, 1, 1),
                b -> b.recount(24, 1), b -> b.move(0, 4), b -> b.threshold(21), b -> b.ofStack(0, 6),
                b -> b.firsts(0, 6), b -> b.points(4, 0), b -> b.pair(0, 1, 1, true), b -> b.winner(0, 4),
                b -> b.out(0, 6), b -> b.elected(0, 5), b -> b.worth(24), b -> b.ofParty(0, 5),
                b -> b.share(0, 61, 0), b -> b.overhang(0, 0), b -> b.swings(0, 1, 3), b -> b.coalition(61, 0),
                b -> b.gap(0, 4), b -> b.many(10), b -> b.margin(4), b -> b.wouldWin(0, 0, 0), b -> b.lie(0, 4),
                b -> b.district(1), b -> b.candidate(0), b -> b.recount(0, 1), b -> b.move(0, 1)};
            for (Edges.Call call : calls) {
                String got = Checks.outcome(() -> call.on(x));
                CHECKS.judge(got.startsWith("throws."), "a call that is refused", got, "throws.");
            }
            return x.cast(0, 1, 1);
        });
    }

    /** Terms: "what would be (nothing is changed)" */
    private static void whatWouldBeChangesNothing() {
        Edges.Call[] calls = {
            x -> x.margin(3), x -> x.wouldWin(5, 999999, 0), x -> x.wouldWin(6, 3, 1), x -> x.wouldWin(7, 21, 2),
            x -> x.wouldWin(8, 654321, 3), x -> x.lie(1, 0), x -> x.lie(2, 1), x -> x.lie(3, 2), x -> x.lie(23, 3),
            x -> x.digest()};
        for (int k = 0; k < calls.length; k++) {
            Edges.Call call = calls[k];
            Boxes.Maker after = () -> {
                BallotLoom x = Boxes.full();
                call.on(x);
                return x;
            };
            String difference = AllAnswers.difference(AllAnswers.of(after), AllAnswers.of(Boxes::full));
            CHECKS.due("what call " + k + " changes", difference, "none");
        }
    }

    /** Section 1: "CANDIDATES: at most 6" */
    private static void candidatesAreAtMostSix() {
        EDGES.allowed("the sixth", () -> Boxes.box("01230", ""), x -> x.candidate(3));
        EDGES.refused(Edges.STATE, "the seventh", () -> Boxes.box("012301", ""), x -> x.candidate(3));
        EDGES.refused(Edges.STATE, "the seventh, as all withdrew",
                () -> Boxes.without(Boxes.box("012301", ""), 0, 1, 2, 3, 4, 5), x -> x.candidate(3));
        BallotLoom x = Boxes.box("012301", "1", 0, 654321, 2);
        CHECKS.due("a list of six", x.ofStack(0, 4), 6);
        CHECKS.due("points of the last one of six", x.points(0, 5), 0.0);
        CHECKS.due("points of the first one of six", x.points(0, 0), 10.0);
    }

    /** Section 1: "numbered from 0, each of a PARTY (0 to 3)" */
    private static void candidatesAreNumberedFromZero() {
        BallotLoom x = new BallotLoom();
        for (int k = 0; k < 6; k++) {
            CHECKS.due("candidate number " + k, x.candidate(3 - k % 4), k);
        }
        CHECKS.due("of party 3", x.ofParty(3, 1), 2);
        CHECKS.due("of party 2", x.ofParty(2, 1), 2);
        CHECKS.due("of party 1", x.ofParty(1, 1), 1);
        CHECKS.due("of party 0", x.ofParty(0, 1), 1);
        EDGES.within(Edges.ARGUMENT, "the party", Boxes::some, 0, 3, (b, v) -> b.candidate(v));
    }

    /** Section 1: "one can be WITHDRAWN, for good" */
    private static void withdrawnIsForGood() {
        BallotLoom x = Boxes.without(Boxes.box("00", "1", 0, 21, 5), 0);
        EDGES.refused(Edges.STATE, "once more", () -> Boxes.without(Boxes.box("00", "1"), 0), b -> b.withdraw(0));
        x.candidate(0);
        x.district(1);
        x.seal(true);
        x.seal(false);
        x.cast(0, 1, 9);
        x.recount(0, 6);
        x.move(0, 1);
        CHECKS.due("those that stand", x.many(1), 2);
        CHECKS.due("its points still", x.points(1, 0), -1.0);
        CHECKS.due("the list without it still", x.ofStack(0, 5), 1);
        CHECKS.due("its own list is empty still", x.ofStack(1, 4), 0);
    }

    /** Section 1: "otherwise it STANDS." */
    private static void othersStand() {
        BallotLoom x = Boxes.box("0000", "1");
        CHECKS.due("all stand", x.many(1), 4);
        x.withdraw(2);
        CHECKS.due("all but one stand", x.many(1), 3);
        CHECKS.due("points of the one before it", x.points(0, 1), 0.0);
        CHECKS.due("its points", x.points(0, 2), -1.0);
        CHECKS.due("points of the one behind it", x.points(0, 3), 0.0);
    }

    /** Section 1: "DISTRICTS: at most 4, numbered from 0" */
    private static void districtsAreAtMostFour() {
        BallotLoom x = new BallotLoom();
        for (int k = 0; k < 4; k++) {
            CHECKS.due("district number " + k, x.district(1), k);
        }
        EDGES.allowed("the fourth", () -> Boxes.box("0", "123"), b -> b.district(4));
        EDGES.refused(Edges.STATE, "the fifth", () -> Boxes.box("0", "1234"), b -> b.district(5));
        BallotLoom y = Boxes.box("0", "1111", 3, 1, 8);
        CHECKS.due("firsts in the last one", y.firsts(3, 0), 8);
        CHECKS.due("firsts in the one before", y.firsts(2, 0), 0);
    }

    /** Section 1: "each with SEATS (1 to 5)." */
    private static void seatsAreOneToFive() {
        EDGES.within(Edges.ARGUMENT, "the seats", Boxes::some, 1, 5, (x, v) -> x.district(v));
        for (int seats = 1; seats <= 5; seats++) {
            BallotLoom x = Boxes.box("012301", String.valueOf(seats));
            for (int seat = 0; seat < 5; seat++) {
                CHECKS.due(seats + " seats, seat " + seat, x.elected(0, seat), seat < seats ? seat : -1);
            }
        }
    }

    /** Section 1: "STACKS of like ballots: at most 24, numbered from 0, each of a DISTRICT" */
    private static void stacksAreAtMost24() {
        BallotLoom x = Boxes.box("0", "12");
        for (int k = 0; k < 24; k++) {
            CHECKS.due("stack number " + k, x.cast(k % 2, 1, 1 + k), k);
        }
        CHECKS.due("district of the last one", x.ofStack(23, 0), 1);
        CHECKS.due("count of the last one", x.ofStack(23, 2), 24);
        // 2 + 4 + .. + 24 and 1 + 3 + .. + 23
        CHECKS.due("firsts with the last one", x.firsts(1, 0), 156);
        CHECKS.due("firsts of the other district", x.firsts(0, 0), 144);
        CHECKS.badState("the 25th", () -> x.cast(0, 1, 1));
        EDGES.refused(Edges.STATE, "the 25th", Boxes::full, b -> b.cast(0, 1, 1));
    }

    /** Section 1: "with a COUNT (1 to 500)" */
    private static void countIsOneTo500() {
        EDGES.within(Edges.ARGUMENT, "the count as it is cast", Boxes::some, 1, 500, (x, v) -> x.cast(0, 1, v));
        EDGES.within(Edges.ARGUMENT, "the count anew", Boxes::some, 1, 500, (x, v) -> x.recount(0, v));
        BallotLoom x = Boxes.box("0", "1", 0, 1, 1, 0, 1, 500);
        CHECKS.due("a count of 1", x.ofStack(0, 2), 1);
        CHECKS.due("a count of 500", x.ofStack(1, 2), 500);
        CHECKS.due("both", x.firsts(0, 0), 501);
    }

    /** Section 1: "and RANKS: a number of at most 6 decimal digits" */
    private static void ranksHaveAtMostSixDigits() {
        EDGES.within(Edges.ARGUMENT, "ranks as they are cast", Boxes::some, 1, 999999, (x, v) -> x.cast(0, v, 1));
        EDGES.within(Edges.ARGUMENT, "ranks that would be", Boxes::some, 1, 999999, (x, v) -> x.wouldWin(0, v, 0));
        BallotLoom x = Boxes.box("000000", "1", 0, 6, 1, 0, 123456, 1, 0, 654321, 1);
        CHECKS.due("one digit", x.ofStack(0, 4), 1);
        CHECKS.due("six digits, the lowest one first", x.ofStack(1, 5), 5);
        CHECKS.due("six digits are a list of six", x.ofStack(1, 4), 6);
        CHECKS.due("six digits, the lowest one 1", x.ofStack(2, 5), 0);
        CHECKS.due("all of them are kept", x.ofStack(2, 1), 654321);
    }

    /** Section 1: "that are read from the lowest one on: 1 and the CANDIDATE, the first choice first." */
    private static void ranksAreReadFromTheLowestOneOn() {
        BallotLoom x = Boxes.box("000000", "1", 0, 612345, 1);
        int[] list = {4, 3, 2, 1, 0, 5};
        for (int place = 0; place < 6; place++) {
            CHECKS.due("points at place " + place, x.points(0, list[place]), 5.0 - place);
        }
        for (int c = 0; c < 6; c++) {
            CHECKS.due("digit " + (c + 1), Boxes.box("000000", "1", 0, c + 1, 1).ofStack(0, 5), c);
        }
    }

    /** Section 1: "A STACK is SPOILED, if a digit is 0" */
    private static void digitZeroSpoils() {
        for (int ranks : new int[] {10, 20, 102, 201, 1002, 120, 2013, 10000, 100000, 300021}) {
            CHECKS.due(ranks + " is spoiled", Boxes.box("012", "1", 0, ranks, 1).ofStack(0, 3), 1);
        }
        for (int ranks : new int[] {1, 2, 12, 21, 213}) {
            CHECKS.due(ranks + " is not", Boxes.box("012", "1", 0, ranks, 1).ofStack(0, 3), 0);
        }
    }

    /** Section 1: "or is above the number of CANDIDATES that there are as it is cast" */
    private static void digitAboveTheCandidatesSpoils() {
        for (int n = 0; n <= 6; n++) {
            BallotLoom x = Boxes.box("012301".substring(0, n), "1");
            for (int digit = 1; digit <= 9; digit++) {
                int stack = x.cast(0, digit, 1);
                CHECKS.due(n + " candidates, digit " + digit, x.ofStack(stack, 3), digit > n ? 1 : 0);
            }
        }
        CHECKS.due("3 as the last of 3", Boxes.box("012", "1", 0, 312, 1).ofStack(0, 3), 0);
        CHECKS.due("4 as the last of 3", Boxes.box("012", "1", 0, 412, 1).ofStack(0, 3), 1);
        CHECKS.due("4 as the middle of 3", Boxes.box("012", "1", 0, 142, 1).ofStack(0, 3), 1);
        BallotLoom late = Boxes.box("0", "1", 0, 2, 1);
        late.candidate(0);
        CHECKS.due("one that is told later does not mend it", late.ofStack(0, 3), 1);
        late.recount(0, 5);
        CHECKS.due("nor does another count", late.ofStack(0, 3), 1);
        late.district(1);
        late.move(0, 1);
        CHECKS.due("nor another district", late.ofStack(0, 3), 1);
        late.withdraw(0);
        CHECKS.due("nor one that withdraws", late.ofStack(0, 3), 1);
        CHECKS.due("as it is cast now", late.ofStack(late.cast(0, 2, 1), 3), 0);
        BallotLoom gone = Boxes.without(Boxes.box("00", "1"), 1);
        CHECKS.due("who is withdrawn is a candidate still", gone.ofStack(gone.cast(0, 2, 1), 3), 0);
        CHECKS.due("the next number is not", gone.ofStack(gone.cast(0, 3, 1), 3), 1);
    }

    /** Section 1: "or comes twice" */
    private static void digitThatComesTwiceSpoils() {
        for (int ranks : new int[] {11, 121, 112, 211, 66, 654326, 123451, 111111, 543212}) {
            CHECKS.due(ranks + " is spoiled", Boxes.box("000000", "1", 0, ranks, 1).ofStack(0, 3), 1);
        }
        for (int ranks : new int[] {1, 12, 6, 654321, 16}) {
            CHECKS.due(ranks + " is not", Boxes.box("000000", "1", 0, ranks, 1).ofStack(0, 3), 0);
        }
    }

    /** Section 1: "it counts for nothing then." */
    private static void spoiledCountsForNothing() {
        int[] fair = {0, 321, 30, 1, 12, 20, 0, 2, 29};
        for (int ranks : new int[] {11, 102, 4, 3214}) {
            Boxes.Maker with = () -> Boxes.box("012", "21", Boxes.joined(fair, 0, ranks, 500, 1, ranks, 500));
            String difference = AllAnswers.difference(AllAnswers.ofResults(with),
                    AllAnswers.ofResults(() -> Boxes.box("012", "21", fair)));
            CHECKS.due("what " + ranks + " changes", difference, "none");
            CHECKS.due("its worth", with.make().worth(3), 0.0);
            CHECKS.due("length of its list", with.make().ofStack(3, 4), 0);
            CHECKS.due("counts of lists", with.make().many(6), 79);
        }
    }

    /** Section 1: "The LIST of a STACK: its CANDIDATES that STAND, in the order of RANKS" */
    private static void listHasThoseThatStand() {
        Boxes.Maker box = () -> Boxes.box("0000", "1", 0, 3142, 2);
        CHECKS.due("1, 3, 0, 2: the first one", box.make().ofStack(0, 5), 1);
        CHECKS.due("1, 3, 0, 2: its length", box.make().ofStack(0, 4), 4);
        CHECKS.due("3, 0, 2: the first one", Boxes.without(box.make(), 1).ofStack(0, 5), 3);
        CHECKS.due("3, 0, 2: its length", Boxes.without(box.make(), 1).ofStack(0, 4), 3);
        // Two times 3 less 1 less the place.
        CHECKS.due("3, 0, 2: points of 0", Boxes.without(box.make(), 1).points(0, 0), 2.0);
        CHECKS.due("3, 0, 2: points of 2", Boxes.without(box.make(), 1).points(0, 2), 0.0);
        CHECKS.due("1, 0, 2: points of 0", Boxes.without(box.make(), 3).points(0, 0), 2.0);
        CHECKS.due("0: the first one", Boxes.without(box.make(), 1, 2, 3).ofStack(0, 5), 0);
        CHECKS.due("0: its length", Boxes.without(box.make(), 1, 2, 3).ofStack(0, 4), 1);
    }

    /** Section 1: "if there is none, it is EMPTY." */
    private static void listOfNobodyIsEmpty() {
        Boxes.Maker box = () -> Boxes.box("0000", "1", 0, 21, 7, 0, 3, 4);
        BallotLoom one = Boxes.without(box.make(), 1);
        CHECKS.due("one is left: its length", one.ofStack(0, 4), 1);
        CHECKS.due("one is left: counts of lists", one.many(6), 11);
        BallotLoom x = Boxes.without(box.make(), 1, 0);
        CHECKS.due("none is left: its length", x.ofStack(0, 4), 0);
        CHECKS.due("none is left: its first one", x.ofStack(0, 5), -1);
        CHECKS.due("none is left: it is not spoiled", x.ofStack(0, 3), 0);
        CHECKS.due("none is left: counts of lists", x.many(6), 4);
        CHECKS.due("none is left: firsts of one who is in none", x.firsts(0, 3), 0);
    }
}
