/** The bounds that section 3 of the document names, seats by transfers; a test for each sentence. */
final class TransfersBoundsTest {
    private static final Checks CHECKS = new Checks("TransfersBoundsTest");

    public static void main(String[] args) {
        Sentences.test(TransfersBoundsTest.class, CHECKS);
    }

    private static void elected(String name, BallotLoom x, int... due) {
        for (int seat = 0; seat < 5; seat++) {
            CHECKS.due(name + ", seat " + seat, x.elected(0, seat), seat < due.length ? due[seat] : -1);
        }
    }

    private static void worths(String name, BallotLoom x, double... due) {
        for (int stack = 0; stack < due.length; stack++) {
            CHECKS.due(name + ", worth of stack " + stack, x.worth(stack), due[stack]);
        }
    }

    /** Section 3: "SEATS of a DISTRICT go one by one." */
    private static void seatsGoOneByOne() {
        // 36 ballots, quota 10: 1 with 20, 2 with 10; then 3 goes out, and 0 is left.
        BallotLoom x = Boxes.box("0123", "3", 0, 1, 5, 0, 2, 20, 0, 3, 10, 0, 4, 1);
        elected("20, 10, 5", x, 1, 2, 0);
        CHECKS.badArgument("seat -1", () -> x.elected(0, -1));
        CHECKS.badArgument("seat 5", () -> x.elected(0, 5));
    }

    /** Section 3: "QUOTA: COUNTS of LISTS that are not EMPTY, divided by (SEATS and 1), and 1." */
    private static void quotaIsRoundedDownAndOneMore() {
        // One list of 0 alone: what it is worth then is its count less the quota.
        int[] quotas = {251, 167, 126, 101, 84};
        for (int seats = 1; seats <= 5; seats++) {
            BallotLoom x = Boxes.box("012301", String.valueOf(seats), 0, 1, 500);
            CHECKS.due(seats + " seats, 500 ballots", x.worth(0), 500.0 - quotas[seats - 1]);
        }
        int[] quotasOfFew = {1, 2, 2, 3, 3, 4};
        for (int count = 1; count <= 6; count++) {
            BallotLoom x = Boxes.box("01", "1", 0, 1, count);
            CHECKS.due("1 seat, " + count + " ballots", x.worth(0), (double) (count - quotasOfFew[count - 1]));
        }
        CHECKS.due("5 seats, 5 ballots: quota 1", Boxes.box("012301", "5", 0, 1, 5).worth(0), 4.0);
        CHECKS.due("5 seats, 6 ballots: quota 2", Boxes.box("012301", "5", 0, 1, 6).worth(0), 4.0);
        // Of 9 ballots with 1 seat the quota is 5; empty lists, spoiled ones and those elsewhere change nothing.
        Boxes.Maker box = () -> Boxes.box("012", "11", 0, 1, 9, 0, 3, 500, 0, 33, 500, 1, 1, 500);
        CHECKS.due("9 ballots", Boxes.without(box.make(), 2).worth(0), 4.0);
        CHECKS.due("9 ballots, of 509: 2 is elected", box.make().elected(0, 0), 2);
    }

    /** Section 3: "The WORTH (double) of each STACK is its COUNT at first." */
    private static void worthIsTheCountAtFirst() {
        BallotLoom x = Boxes.box("01", "1", 0, 1, 5, 0, 2, 1, 0, 12, 3);
        worths("5 of 9 for 0: those of 1 are as they were", x, 0.0, 1.0, 3.0);
        x.recount(1, 2);
        // 10 ballots, quota 6: 1 with 5 goes out, 0 has 8: 5 * 2 / 8, the count, 3 * 2 / 8.
        worths("another count", x, 1.25, 2.0, 0.75);
        BallotLoom gone = Boxes.without(x, 0, 1);
        worths("nobody is elected", gone, 5.0, 2.0, 3.0);
        CHECKS.due("of a count of 500", Boxes.without(Boxes.box("0", "1", 0, 1, 500), 0).worth(0), 500.0);
        CHECKS.due("of a count of 1", Boxes.without(Boxes.box("0", "1", 0, 1, 1), 0).worth(0), 1.0);
    }

    /** Section 3: "Again and again, as long as SEATS are left" */
    private static void nobodyMoreIsElectedThanSeats() {
        BallotLoom one = Boxes.box("012", "1", 0, 1, 6, 0, 2, 5);
        elected("1 seat", one, 0);
        worths("1 seat: the second one keeps its ballots", one, 0.0, 5.0);
        // 11 ballots, quota 4: both are above.
        BallotLoom two = Boxes.box("012", "2", 0, 1, 6, 0, 2, 5);
        elected("2 seats", two, 0, 1);
        worths("2 seats", two, 2.0, 1.0);
        elected("6 candidates, 5 seats", Boxes.box("012301", "5"), 0, 1, 2, 3, 4);
    }

    /** Section 3: "and anyone is IN" */
    private static void nobodyIsElectedAsNobodyIsIn() {
        elected("5 seats, 2 candidates", Boxes.box("01", "5", 0, 2, 3), 1, 0);
        elected("5 seats, 1 candidate", Boxes.box("0", "5"), 0);
        elected("5 seats, no candidate", Boxes.box("", "5"));
        elected("5 seats, 5 candidates", Boxes.box("01230", "5"), 0, 1, 2, 3, 4);
        elected("2 seats, 1 candidate", Boxes.box("0", "2", 0, 1, 4), 0);
    }

    /** Section 3: "(at first all that STAND)" */
    private static void atFirstAllThatStandAreIn() {
        BallotLoom x = Boxes.box("012", "2", 0, 1, 9, 0, 2, 3, 0, 3, 2);
        elected("all stand", x, 0, 1);
        elected("0 withdrew", Boxes.without(x, 0), 1, 2);
        elected("1 withdrew as well", Boxes.without(x, 1), 2);
        elected("all withdrew", Boxes.without(x, 2));
    }

    /** Section 3: "LISTS are with the first one that is IN" */
    private static void listsAreWithTheFirstOneThatIsIn() {
        // 12 ballots, quota 5: 0 has 8, and what is above goes on: 2 has 3 and 2 then, which is the quota.
        BallotLoom x = Boxes.box("012", "2", 0, 31, 8, 0, 2, 2, 0, 3, 2);
        elected("what is left of 0 goes on to 2", x, 0, 2);
        worths("what is left of 0 goes on to 2", x, 0.0, 2.0, 0.0);
        // 11 ballots, quota 6: 2 goes out, and 1 has 6.
        BallotLoom y = Boxes.box("012", "1", 0, 1, 5, 0, 2, 4, 0, 123, 2);
        elected("the list 2, 1, 0 is with 1", y, 1);
        BallotLoom z = Boxes.box("0123", "1", 0, 1, 5, 0, 2, 3, 0, 134, 1, 0, 3, 2);
        // 11 ballots, quota 6: 3 goes out, then 2 (with 3, as 1 has, but the greater number); 0 has 6.
        elected("the list 3, 2, 0 is with 0 at last", z, 0);
        worths("the list 3, 2, 0 is with 0 at last", z, 0.0, 3.0, 0.0, 2.0);
    }

    /** Section 3: "HELD (double) of one: WORTHS of the LISTS with it, STACK by STACK, from 0.0 on." */
    private static void heldIsTheSumOfWorths() {
        // 13 ballots, quota 5: 0 has 7; 4 and 3 of them become 1170 and 877 parts of 1024, 2047 in all.
        BallotLoom x = Boxes.box("012", "2", 0, 21, 4, 0, 21, 3, 0, 2, 3, 0, 23, 3);
        elected("1 has 3 and 2047 parts", x, 0, 1);
        // 1 part is missing: 2 goes out, and 1 has 8191 parts, of which 3071 are above: 3072 * 3071 / 8191.
        CHECKS.due("the stack that came from 2", x.worth(3), 1151 / 1024.0);
        CHECKS.due("the stack of 1", x.worth(2), 1151 / 1024.0);
        // 1170 * 3071 / 8191 is 438.66, and 877 * 3071 / 8191 is 328.81.
        CHECKS.due("the greater stack of 0", x.worth(0), 438 / 1024.0);
        CHECKS.due("the smaller stack of 0", x.worth(1), 328 / 1024.0);
        CHECKS.due("held 0.0: quota 1 without a ballot", Boxes.box("01", "1").elected(0, 0), 0);
    }

    /** Section 3: "If no more are IN than SEATS are left, the one with the greatest HELD is ELECTED" */
    private static void allThatAreInGetTheSeatsThatAreLeft() {
        // 3 ballots, quota 2: 1 has it; 0 is below, but the only one IN for the one seat left.
        BallotLoom x = Boxes.box("01", "2", 0, 1, 1, 0, 2, 2);
        elected("as many as seats", x, 1, 0);
        worths("as many as seats", x, 0.0, 0.0);
        // 10 ballots, quota 6: one more than the seats: nobody has it, 1 goes out, and 0 has 10 then.
        BallotLoom y = Boxes.box("01", "1", 0, 1, 5, 0, 12, 5);
        elected("one more than seats", y, 0);
        worths("one more than seats: 5 * 4 / 10", y, 2.0, 2.0);
        elected("fewer than seats, the greatest first", Boxes.box("012", "5", 0, 3, 3, 0, 2, 2, 0, 1, 1), 2, 1, 0);
        // Quota 6 / 3 and 1: 0 has 5; as 2 goes out, 1 is left for the one seat, below the quota.
        BallotLoom z = Boxes.box("012", "2", 0, 1, 5, 0, 2, 1);
        elected("below the quota", z, 0, 1);
        worths("below the quota", z, 2.0, 0.0);
    }

    /** Section 3: "otherwise, if the greatest HELD is QUOTA or more, that one is ELECTED" */
    private static void quotaIsEnough() {
        // 11 ballots, quota 6.
        BallotLoom x = Boxes.box("01", "1", 0, 1, 6, 0, 12, 5);
        elected("6 of 6", x, 0);
        worths("6 of 6: 1 does not go out before", x, 0.0, 5.0);
        BallotLoom y = Boxes.box("01", "1", 0, 1, 5, 0, 12, 5, 0, 9, 1);
        elected("5 of 6", y, 0);
        worths("5 of 6: 1 goes out before", y, 2.0, 2.0);
        // 13 ballots, quota 7.
        BallotLoom z = Boxes.box("01", "1", 0, 1, 8, 0, 12, 5);
        elected("8 of 7", z, 0);
        worths("8 of 7", z, 1.0, 5.0);
        // 14 ballots, quota 5: 0 has 7; 1 has 4 and 2047 parts of 1024 then, so that 2 does not go out.
        BallotLoom part = Boxes.box("012", "2", 0, 21, 4, 0, 21, 3, 0, 2, 4, 0, 23, 3);
        CHECKS.due("a part above the quota", part.worth(3), 3.0);
    }

    /** Section 3: "of several the smallest number, both times." */
    private static void ofSeveralThatHoldTheMostTheSmallestNumber() {
        // 11 ballots, quota 4.
        elected("0 and 1 above the quota", Boxes.box("012", "2", 0, 1, 5, 0, 2, 5, 0, 3, 1), 0, 1);
        elected("1 and 2 above the quota", Boxes.box("012", "2", 0, 1, 1, 0, 3, 5, 0, 2, 5), 1, 2);
        elected("1 above the quota by one more", Boxes.box("012", "2", 0, 1, 5, 0, 2, 6), 1, 0);
        elected("no more than seats, without a ballot", Boxes.box("012", "3"), 0, 1, 2);
        elected("no more than seats, one ballot", Boxes.box("012", "3", 0, 3, 1), 2, 0, 1);
        elected("no more than seats, level", Boxes.box("012", "4", 0, 3, 2, 0, 2, 2, 0, 1, 1), 1, 2, 0);
    }

    /**
     * Section 3: "WORTH of each LIST that is with it becomes then: the floor of 1024.0 * WORTH * (HELD - QUOTA) / HELD"
     */
    private static void worthIsRoundedDownToParts() {
        // 7 ballots, quota 4: 1024 * 4 * 3 / 7 is 1755.43, 1024 * 3 * 3 / 7 is 1316.57.
        BallotLoom x = Boxes.box("01", "1", 0, 1, 4, 0, 21, 3);
        worths("4 and 3", x, 1755 / 1024.0, 1316 / 1024.0);
        // 8 ballots, quota 5: 1024 * 4 * 3 / 8 is 1536.
        worths("4 and 4 are whole parts", Boxes.box("01", "1", 0, 1, 4, 0, 21, 4), 1.5, 1.5);
        BallotLoom y = Boxes.box("01", "1", 0, 1, 7, 0, 2, 3);
        // 10 ballots, quota 6.
        worths("lists with another one keep theirs", y, 1.0, 3.0);
    }

    /** Section 3: "(in this order, as doubles), divided by 1024.0" */
    private static void worthIsReckonedInThisOrder() {
        // 25 ballots, quota 7: 1024.0 * 11 * 15 / 22 is 7680; 15 / 22.0 first would make it 7679.99..
        BallotLoom x = Boxes.box("0123", "3", 0, 1, 11, 0, 1, 11, 0, 2, 2, 0, 3, 1);
        CHECKS.due("11 of 22", x.worth(0), 7.5);
        CHECKS.due("11 of 22, the other one", x.worth(1), 7.5);
        CHECKS.due("the case is one in which the order shows", (long) (1024.0 * 11 * (15 / 22.0)), 7679);
    }

    /** Section 3: "if HELD is below QUOTA, 0.0." */
    private static void worthBelowTheQuotaIsNothing() {
        // 6 ballots, quota 3: 0 has 5; 2 goes out without a ballot; 1 is left with 1.
        BallotLoom x = Boxes.box("012", "2", 0, 1, 5, 0, 2, 1);
        worths("1 of 3", x, 2.0, 0.0);
        BallotLoom y = Boxes.box("012", "2", 0, 21, 5, 0, 2, 1);
        // 5 * 2 / 5 and 1 are the quota.
        worths("3 of 3", y, 0.0, 0.0);
        elected("3 of 3", y, 0, 1);
        BallotLoom z = Boxes.box("012", "2", 0, 21, 6, 0, 2, 1, 0, 8, 9);
        // 7 ballots, quota 3: 3 of 6, and 1, are 1 more: 3 * 1 / 4 and 1 / 4.
        worths("4 of 3", z, 0.75, 0.25);
        BallotLoom none = Boxes.box("01", "1", 0, 1, 1);
        worths("1 of 1", none, 0.0);
    }

    /** Section 3: "Otherwise the one with the smallest HELD goes OUT (of several the greatest number)." */
    private static void theSmallestHeldGoesOut() {
        // 7 ballots, quota 4: 2 goes out, and 1 has 4; were it 1, 2 would have 4.
        elected("1 and 2 are level", Boxes.box("012", "1", 0, 1, 3, 0, 32, 2, 0, 23, 2), 1);
        // 7 ballots, quota 4: 1 goes out, and 2 has 4.
        elected("1 has one less", Boxes.box("012", "1", 0, 1, 3, 0, 32, 1, 0, 23, 3), 2);
        elected("2 has one less", Boxes.box("012", "1", 0, 1, 3, 0, 32, 3, 0, 23, 1), 1);
        // 8 ballots, quota 5: none has it, and 2, without a ballot, goes out first, then 1: 0 has all of 8.
        BallotLoom x = Boxes.box("012", "1", 0, 1, 4, 0, 12, 4);
        elected("0 and 1 are level", x, 0);
        worths("0 and 1 are level: 4 * 3 / 8", x, 1.5, 1.5);
        elected("none holds any", Boxes.box("012301", "1"), 0);
        elected("none of 4 holds any", Boxes.box("0123", "2"), 0, 1);
    }

    /** Section 3: "One that is ELECTED or OUT is not IN." */
    private static void electedAndOutAreNotIn() {
        elected("500 for 0 are one seat", Boxes.box("012", "2", 0, 1, 500), 0, 1);
        elected("as often as there are seats", Boxes.box("012", "3", 0, 2, 500), 1, 0, 2);
        // 13 ballots, quota 5: 2 goes out, 0 has 6; what is left of the list 0, 2, 1 is with 1, as 2 is out.
        BallotLoom x = Boxes.box("0123", "2", 0, 231, 4, 0, 13, 2, 0, 2, 4, 0, 4, 3);
        elected("2 is out", x, 0, 1);
        // 1 has 4 and 682 parts then, and is elected below the quota, as 3 goes out; 1024 * 2 / 6 is 341.33.
        worths("2 is out", x, 0.0, 341 / 1024.0, 0.0, 3.0);
    }
}
