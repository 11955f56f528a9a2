/** The bounds that promises 1 to 10 name, what is told; a test for each sentence. */
final class ToldBoundsTest {
    private static final Checks CHECKS = new Checks("ToldBoundsTest");
    private static final Edges EDGES = new Edges(CHECKS);

    public static void main(String[] args) {
        Sentences.test(ToldBoundsTest.class, CHECKS);
    }

    /** Promise 1: "Creates an open box." */
    private static void newBoxIsOpenAndEmpty() {
        BallotLoom x = new BallotLoom();
        for (int what = 0; what <= 9; what++) {
            CHECKS.due("many(" + what + ")", x.many(what), 0);
        }
        CHECKS.due("open", new BallotLoom().seal(true), false);
        CHECKS.due("nobody has knocked", new BallotLoom().knock(), 1);
        CHECKS.due("its first candidate", new BallotLoom().candidate(0), 0);
        CHECKS.due("its first district", new BallotLoom().district(1), 0);
        CHECKS.due("nobody is barred", new BallotLoom().threshold(20), 0);
        x.candidate(1);
        x.district(1);
        CHECKS.due("its first stack", x.cast(0, 1, 1), 0);
        CHECKS.due("boxes have nothing in common", new BallotLoom().many(0), 0);
        EDGES.none(Edges.INDEX, "a candidate", BallotLoom::new, (b, v) -> b.withdraw(v));
        EDGES.none(Edges.INDEX, "a district", BallotLoom::new, (b, v) -> b.cast(v, 1, 1));
        EDGES.none(Edges.INDEX, "a stack", BallotLoom::new, (b, v) -> b.worth(v));
    }

    /** Promise 2: "Tells a CANDIDATE.", "party: its PARTY", "Returns its number." */
    private static void candidateReturnsItsNumber() {
        BallotLoom x = new BallotLoom();
        int[] parties = {3, 0, 0, 2, 1, 3};
        for (int k = 0; k < 6; k++) {
            int before = x.ofParty(parties[k], 1);
            CHECKS.due("number of candidate " + k, x.candidate(parties[k]), k);
            CHECKS.due("candidates of its party", x.ofParty(parties[k], 1), before + 1);
            CHECKS.due("candidates", x.many(0), k + 1);
        }
        BallotLoom y = Boxes.without(Boxes.box("00", ""), 0, 1);
        CHECKS.due("numbers of who withdrew are not given again", y.candidate(0), 2);
    }

    /** Promise 2: "Throws IllegalArgumentException if party is not 0 to 3" */
    private static void candidateOfNoParty() {
        EDGES.within(Edges.ARGUMENT, "candidate", BallotLoom::new, 0, 3, (x, v) -> x.candidate(v));
        EDGES.within(Edges.ARGUMENT, "candidate", Boxes::some, 0, 3, (x, v) -> x.candidate(v));
    }

    /** Promise 2: "Throws IllegalStateException if there are 6" */
    private static void candidateOfSix() {
        EDGES.allowed("the sixth", () -> Boxes.box("33333", "1"), x -> x.candidate(0));
        for (int party = 0; party < 4; party++) {
            int of = party;
            EDGES.refused(Edges.STATE, "the seventh", () -> Boxes.box("333333", "1"), x -> x.candidate(of));
        }
        EDGES.refused(Edges.STATE, "the seventh", () -> Boxes.without(Boxes.full(), 5), x -> x.candidate(0));
    }

    /** Terms: "If several exceptions apply, the one that is named first is thrown." Those of promise 2. */
    private static void candidateNamesTheFirst() {
        EDGES.refused(Edges.ARGUMENT, "party 4 and six", Boxes::full, x -> x.candidate(4));
        EDGES.refused(Edges.ARGUMENT, "party -1 and six", Boxes::full, x -> x.candidate(-1));
    }

    /** Promise 3: "A CANDIDATE WITHDRAWS.", "candidate: the CANDIDATE", "Returns how many STAND then." */
    private static void withdrawReturnsHowManyStand() {
        BallotLoom x = Boxes.box("012301", "1");
        int[] order = {5, 0, 3, 1, 4, 2};
        for (int k = 0; k < 6; k++) {
            CHECKS.due("as " + order[k] + " withdraws", x.withdraw(order[k]), 5 - k);
            CHECKS.due("those that stand", x.many(1), 5 - k);
            CHECKS.due("candidates", x.many(0), 6);
            CHECKS.due("its points", x.points(0, order[k]), -1.0);
        }
    }

    /** Promise 3: "Throws IndexOutOfBoundsException if there is no such CANDIDATE" */
    private static void withdrawOfNoCandidate() {
        EDGES.none(Edges.INDEX, "withdraw", () -> Boxes.box("", "1"), (x, v) -> x.withdraw(v));
        EDGES.within(Edges.INDEX, "withdraw of one", () -> Boxes.box("3", "1"), 0, 0, (x, v) -> x.withdraw(v));
        EDGES.within(Edges.INDEX, "withdraw of six", Boxes::full, 0, 5, (x, v) -> x.withdraw(v));
    }

    /** Promise 3: "Throws IllegalStateException if it is WITHDRAWN" */
    private static void withdrawTwice() {
        EDGES.allowed("the next one", Boxes::some, x -> x.withdraw(2));
        EDGES.refused(Edges.STATE, "the same one", Boxes::some, x -> x.withdraw(3));
        EDGES.refused(Edges.STATE, "the last one of six",
                () -> Boxes.without(Boxes.full(), 0, 1, 2, 3, 4, 5), x -> x.withdraw(5));
    }

    /** Promise 4: "Tells a DISTRICT.", "seats: its SEATS", "Returns its number." */
    private static void districtReturnsItsNumber() {
        BallotLoom x = Boxes.box("000000", "");
        int[] seats = {5, 1, 4, 2};
        for (int k = 0; k < 4; k++) {
            CHECKS.due("number of district " + k, x.district(seats[k]), k);
            CHECKS.due("districts", x.many(2), k + 1);
            CHECKS.due("its last seat", x.elected(k, seats[k] - 1), seats[k] - 1);
        }
        CHECKS.due("no seat behind the only one", x.elected(1, 1), -1);
        CHECKS.due("no seat behind the fourth", x.elected(2, 4), -1);
    }

    /** Promise 4: "Throws IllegalArgumentException if seats is not 1 to 5" */
    private static void districtOfNoSeats() {
        EDGES.within(Edges.ARGUMENT, "district", BallotLoom::new, 1, 5, (x, v) -> x.district(v));
        EDGES.within(Edges.ARGUMENT, "district", Boxes::some, 1, 5, (x, v) -> x.district(v));
    }

    /** Promise 4: "Throws IllegalStateException if there are 4" */
    private static void districtOfFour() {
        EDGES.allowed("the fourth", () -> Boxes.box("0", "111"), x -> x.district(1));
        EDGES.refused(Edges.STATE, "the fifth", () -> Boxes.box("0", "1111"), x -> x.district(1));
        EDGES.refused(Edges.STATE, "the fifth", Boxes::full, x -> x.district(5));
    }

    /** Terms: "If several exceptions apply, the one that is named first is thrown." Those of promise 4. */
    private static void districtNamesTheFirst() {
        EDGES.refused(Edges.ARGUMENT, "no seat and four", Boxes::full, x -> x.district(0));
        EDGES.refused(Edges.ARGUMENT, "6 seats and four", Boxes::full, x -> x.district(6));
    }

    /**
     * Promise 5: "Casts a STACK.", "district: its DISTRICT", "ranks: its RANKS", "count: its COUNT", "Returns its
     * number."
     */
    private static void castReturnsItsNumber() {
        BallotLoom x = Boxes.box("012301", "1111");
        int[] ranks = {1, 999999, 654321, 100000};
        for (int k = 0; k < 24; k++) {
            int count = k % 2 == 0 ? 500 : 1;
            CHECKS.due("number of stack " + k, x.cast(3 - k % 4, ranks[k % 4], count), k);
            CHECKS.due("its district", x.ofStack(k, 0), 3 - k % 4);
            CHECKS.due("its ranks", x.ofStack(k, 1), ranks[k % 4]);
            CHECKS.due("its count", x.ofStack(k, 2), count);
            CHECKS.due("stacks", x.many(3), k + 1);
        }
    }

    /** Promise 5: "Throws IndexOutOfBoundsException if there is no such DISTRICT" */
    private static void castInNoDistrict() {
        EDGES.none(Edges.INDEX, "cast", () -> Boxes.box("01", ""), (x, v) -> x.cast(v, 1, 1));
        EDGES.within(Edges.INDEX, "cast in one", () -> Boxes.box("01", "1"), 0, 0, (x, v) -> x.cast(v, 1, 1));
        EDGES.within(Edges.INDEX, "cast in four", () -> Boxes.box("01", "1234"), 0, 3, (x, v) -> x.cast(v, 1, 1));
    }

    /** Promise 5: "Throws IllegalArgumentException if ranks is not 1 to 999999" */
    private static void castWithNoRanks() {
        EDGES.within(Edges.ARGUMENT, "ranks", Boxes::some, 1, 999999, (x, v) -> x.cast(1, v, 1));
    }

    /** Promise 5: ", or count not 1 to 500" */
    private static void castWithNoCount() {
        EDGES.within(Edges.ARGUMENT, "count", Boxes::some, 1, 500, (x, v) -> x.cast(1, 21, v));
    }

    /** Promise 5: "Throws IllegalStateException if the box is SEALED" */
    private static void castAsItIsSealed() {
        EDGES.allowed("open", Boxes::some, x -> x.cast(0, 1, 1));
        EDGES.refused(Edges.STATE, "sealed", () -> Boxes.sealed(Boxes.some()), x -> x.cast(0, 1, 1));
        EDGES.refused(Edges.STATE, "sealed twice", () -> Boxes.sealed(Boxes.sealed(Boxes.some())),
                x -> x.cast(0, 1, 1));
        BallotLoom x = Boxes.sealed(Boxes.some());
        x.seal(false);
        CHECKS.due("open again", x.cast(0, 1, 1), 4);
    }

    /** Promise 5: ", or there are 24" */
    private static void castOf24() {
        BallotLoom x = Boxes.some();
        for (int k = 4; k < 24; k++) {
            CHECKS.due("number " + k, x.cast(0, 11, 1), k);
        }
        CHECKS.badState("the 25th", () -> x.cast(0, 11, 1));
        EDGES.refused(Edges.STATE, "the 25th", Boxes::full, b -> b.cast(3, 654321, 500));
        EDGES.refused(Edges.STATE, "the 25th, sealed", () -> Boxes.sealed(Boxes.full()), b -> b.cast(3, 1, 1));
    }

    /** Terms: "If several exceptions apply, the one that is named first is thrown." Those of promise 5. */
    private static void castNamesTheFirst() {
        Boxes.Maker open = Boxes::some;
        Boxes.Maker sealed = () -> Boxes.sealed(Boxes.some());
        Boxes.Maker full = Boxes::full;
        Boxes.Maker both = () -> Boxes.sealed(Boxes.full());
        EDGES.refused(Edges.INDEX, "district and ranks", open, x -> x.cast(2, 0, 1));
        EDGES.refused(Edges.INDEX, "district and count", open, x -> x.cast(-1, 1, 501));
        EDGES.refused(Edges.INDEX, "district and sealed", sealed, x -> x.cast(2, 1, 1));
        EDGES.refused(Edges.INDEX, "district and full", full, x -> x.cast(4, 1, 1));
        EDGES.refused(Edges.INDEX, "all of them", both, x -> x.cast(4, 1000000, 0));
        EDGES.refused(Edges.ARGUMENT, "ranks and count", open, x -> x.cast(0, 0, 0));
        EDGES.refused(Edges.ARGUMENT, "ranks and sealed", sealed, x -> x.cast(0, 0, 1));
        EDGES.refused(Edges.ARGUMENT, "ranks and full", full, x -> x.cast(0, 1000000, 1));
        EDGES.refused(Edges.ARGUMENT, "count and sealed", sealed, x -> x.cast(0, 1, 0));
        EDGES.refused(Edges.ARGUMENT, "count and full", full, x -> x.cast(0, 1, 501));
        EDGES.refused(Edges.ARGUMENT, "ranks, sealed and full", both, x -> x.cast(0, 0, 1));
        EDGES.refused(Edges.ARGUMENT, "count, sealed and full", both, x -> x.cast(0, 1, 0));
    }

    /** Promise 6: "RECOUNTS a STACK.", "stack: the STACK", "count: its COUNT from now on", "Returns that before." */
    private static void recountReturnsTheCountBefore() {
        BallotLoom x = Boxes.some();
        CHECKS.due("30 to 500", x.recount(0, 500), 30);
        CHECKS.due("500 to 1", x.recount(0, 1), 500);
        CHECKS.due("1 to 1", x.recount(0, 1), 1);
        CHECKS.due("its count", x.ofStack(0, 2), 1);
        CHECKS.due("count of the next one", x.ofStack(1, 2), 20);
        CHECKS.due("a spoiled one", x.recount(2, 8), 9);
        CHECKS.due("the last one", x.recount(3, 6), 7);
        CHECKS.due("all counts", x.many(5), 1 + 20 + 8 + 6);
        CHECKS.due("firsts from now on", x.firsts(0, 0), 1);
    }

    /** Promise 6: "Throws IndexOutOfBoundsException if there is no such STACK" */
    private static void recountOfNoStack() {
        EDGES.none(Edges.INDEX, "recount", () -> Boxes.box("01", "1"), (x, v) -> x.recount(v, 1));
        EDGES.within(Edges.INDEX, "recount of four", Boxes::some, 0, 3, (x, v) -> x.recount(v, 1));
        EDGES.within(Edges.INDEX, "recount of 24", Boxes::full, 0, 23, (x, v) -> x.recount(v, 1));
    }

    /** Promise 6: "Throws IllegalArgumentException if count is not 1 to 500" */
    private static void recountToNoCount() {
        EDGES.within(Edges.ARGUMENT, "recount", Boxes::some, 1, 500, (x, v) -> x.recount(1, v));
        EDGES.within(Edges.ARGUMENT, "recount of a spoiled one", Boxes::some, 1, 500, (x, v) -> x.recount(2, v));
    }

    /** Promise 6: "Throws IllegalStateException if the box is SEALED" */
    private static void recountAsItIsSealed() {
        EDGES.allowed("open", Boxes::full, x -> x.recount(0, 1));
        EDGES.refused(Edges.STATE, "sealed", () -> Boxes.sealed(Boxes.full()), x -> x.recount(0, 1));
        EDGES.refused(Edges.STATE, "sealed, a spoiled one", () -> Boxes.sealed(Boxes.some()), x -> x.recount(2, 1));
    }

    /** Terms: "If several exceptions apply, the one that is named first is thrown." Those of promise 6. */
    private static void recountNamesTheFirst() {
        Boxes.Maker sealed = () -> Boxes.sealed(Boxes.some());
        EDGES.refused(Edges.INDEX, "stack and count", Boxes::some, x -> x.recount(4, 0));
        EDGES.refused(Edges.INDEX, "stack and sealed", sealed, x -> x.recount(-1, 1));
        EDGES.refused(Edges.INDEX, "all of them", sealed, x -> x.recount(4, 501));
        EDGES.refused(Edges.ARGUMENT, "count 0 and sealed", sealed, x -> x.recount(0, 0));
        EDGES.refused(Edges.ARGUMENT, "count 501 and sealed", sealed, x -> x.recount(0, 501));
    }

    /**
     * Promise 7: "Moves a STACK to a DISTRICT.", "stack: the STACK", "district: its DISTRICT from now on", "Returns
     * that before."
     */
    private static void moveReturnsTheDistrictBefore() {
        BallotLoom x = Boxes.box("01", "1111", 0, 1, 5, 2, 2, 7, 1, 11, 3);
        CHECKS.due("0 to 3", x.move(0, 3), 0);
        CHECKS.due("3 to 3", x.move(0, 3), 3);
        CHECKS.due("3 to 2", x.move(0, 2), 3);
        CHECKS.due("its district", x.ofStack(0, 0), 2);
        CHECKS.due("a spoiled one", x.move(2, 0), 1);
        CHECKS.due("firsts there from now on", x.firsts(2, 0), 5);
        CHECKS.due("firsts where it was", x.firsts(0, 0) + x.firsts(3, 0), 0);
        CHECKS.due("the other one stays", x.ofStack(1, 0), 2);
        CHECKS.due("back to 0", x.move(0, 0), 2);
        CHECKS.due("firsts there again", x.firsts(0, 0), 5);
    }

    /** Promise 7: "Throws IndexOutOfBoundsException if there is no such STACK" */
    private static void moveOfNoStack() {
        EDGES.none(Edges.INDEX, "move", () -> Boxes.box("01", "1"), (x, v) -> x.move(v, 0));
        EDGES.within(Edges.INDEX, "move of four", Boxes::some, 0, 3, (x, v) -> x.move(v, 1));
        EDGES.within(Edges.INDEX, "move of 24", Boxes::full, 0, 23, (x, v) -> x.move(v, 1));
    }

    /** Promise 7: ", or DISTRICT" */
    private static void moveToNoDistrict() {
        EDGES.within(Edges.INDEX, "move to one of two", Boxes::some, 0, 1, (x, v) -> x.move(0, v));
        EDGES.within(Edges.INDEX, "move to one of four", Boxes::full, 0, 3, (x, v) -> x.move(0, v));
    }

    /** Promise 7: "Throws IllegalStateException if the box is SEALED" */
    private static void moveAsItIsSealed() {
        EDGES.allowed("open", Boxes::full, x -> x.move(0, 1));
        EDGES.refused(Edges.STATE, "sealed", () -> Boxes.sealed(Boxes.full()), x -> x.move(0, 1));
        EDGES.refused(Edges.STATE, "sealed, to where it is", () -> Boxes.sealed(Boxes.full()), x -> x.move(0, 0));
    }

    /** Terms: "If several exceptions apply, the one that is named first is thrown." Those of promise 7. */
    private static void moveNamesTheFirst() {
        Boxes.Maker sealed = () -> Boxes.sealed(Boxes.some());
        EDGES.refused(Edges.INDEX, "stack and sealed", sealed, x -> x.move(4, 0));
        EDGES.refused(Edges.INDEX, "district and sealed", sealed, x -> x.move(0, 2));
        EDGES.refused(Edges.INDEX, "stack, district and sealed", sealed, x -> x.move(-1, -1));
        EDGES.refused(Edges.INDEX, "stack and district", Boxes::some, x -> x.move(4, 2));
    }

    /**
     * Promise 8: "Tells the THRESHOLD.", "percent: the THRESHOLD", "Returns the set of PARTIES that are BARRED then."
     */
    private static void thresholdReturnsWhoIsBarred() {
        BallotLoom x = Boxes.alone(80, 13, 7);
        CHECKS.due("0", x.threshold(0), 0);
        CHECKS.due("1: who has no vote", x.threshold(1), 8);
        CHECKS.due("7: 7 of 100 are enough", x.threshold(7), 8);
        CHECKS.due("8: 7 of 100 are not", x.threshold(8), 12);
        CHECKS.due("13: 13 of 100 are enough", x.threshold(13), 12);
        CHECKS.due("14: 13 of 100 are not", x.threshold(14), 14);
        CHECKS.due("20", x.threshold(20), 14);
        CHECKS.due("told then", x.many(7), 20);
        CHECKS.due("0 again", x.threshold(0), 0);
        CHECKS.due("told then, again", x.many(7), 0);
        CHECKS.due("without votes", Boxes.alone(0, 0).threshold(20), 0);
    }

    /** Promise 8: "Throws IllegalArgumentException if percent is not 0 to 20" */
    private static void thresholdOfNoPercent() {
        EDGES.within(Edges.ARGUMENT, "threshold", BallotLoom::new, 0, 20, (x, v) -> x.threshold(v));
        EDGES.within(Edges.ARGUMENT, "threshold", Boxes::full, 0, 20, (x, v) -> x.threshold(v));
        EDGES.within(Edges.ARGUMENT, "threshold after 20", () -> {
            BallotLoom x = Boxes.full();
            x.threshold(20);
            return x;
        }, 0, 20, (x, v) -> x.threshold(v));
    }

    /**
     * Promise 9: "SEALS the box, or opens it.", "is: whether it is SEALED from now on", "Returns whether it was."
     */
    private static void sealReturnsWhetherItWas() {
        BallotLoom x = new BallotLoom();
        CHECKS.due("open to open", x.seal(false), false);
        CHECKS.due("open", x.many(8), 0);
        CHECKS.due("open to sealed", x.seal(true), false);
        CHECKS.due("sealed", x.many(8), 1);
        CHECKS.due("sealed to sealed", x.seal(true), true);
        CHECKS.due("sealed still", x.many(8), 1);
        CHECKS.due("sealed to open", x.seal(false), true);
        CHECKS.due("open again", x.many(8), 0);
        CHECKS.due("open to open again", x.seal(false), false);
    }

    /** Promise 10: "KNOCKS.", "Returns how many were REFUSED ever, with this." */
    private static void knockReturnsHowManyWereRefused() {
        BallotLoom x = Boxes.some();
        CHECKS.due("nobody before", x.many(9), 0);
        CHECKS.due("the first", x.knock(), 1);
        CHECKS.due("the second", x.knock(), 2);
        Checks.outcome(() -> x.cast(9, 1, 1));
        Checks.outcome(() -> x.withdraw(3));
        x.seal(true);
        Checks.outcome(() -> x.cast(0, 1, 1));
        CHECKS.due("exceptions are none", x.many(9), 2);
        CHECKS.due("the third, as it is sealed", x.knock(), 3);
        CHECKS.due("ever", x.many(9), 3);
        CHECKS.due("not those at another box", new BallotLoom().knock(), 1);
    }
}
