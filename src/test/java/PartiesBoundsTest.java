/** The bounds that sections 4 and 5 of the document name, parties and waste; a test for each sentence. */
final class PartiesBoundsTest {
    private static final Checks CHECKS = new Checks("PartiesBoundsTest");
    private static final int VOTES = 0;
    private static final int DIRECT = 2;
    private static final int WASTED = 3;
    private static final int BARRED = 4;

    public static void main(String[] args) {
        Sentences.test(PartiesBoundsTest.class, CHECKS);
    }

    private static void parties(String name, BallotLoom x, int what, int... due) {
        for (int party = 0; party < 4; party++) {
            CHECKS.due(name + ", party " + party, x.ofParty(party, what), due[party]);
        }
    }

    private static void shares(String name, BallotLoom x, int house, int rule, int... due) {
        for (int party = 0; party < 4; party++) {
            String call = name + ", " + house + " seats by " + rule + ", party " + party;
            CHECKS.due(call, x.share(party, house, rule), due[party]);
        }
    }

    private static BallotLoom barring(BallotLoom x, int percent) {
        x.threshold(percent);
        return x;
    }

    /** Section 4: "VOTES of a PARTY: FIRSTS of its CANDIDATES in all DISTRICTS." */
    private static void votesAreFirstsOfAllDistricts() {
        BallotLoom x = Boxes.box("0110", "1111", 0, 1, 5, 3, 4, 7, 1, 2, 3, 3, 123, 4, 2, 21, 2, 0, 22, 500);
        parties("second choices and spoiled ones are none", x, VOTES, 14, 7, 0, 0);
        x.withdraw(2);
        parties("the list of 2 begins with 1 then, of the same party", x, VOTES, 14, 7, 0, 0);
        x.withdraw(1);
        parties("and then with 0", x, VOTES, 18, 0, 0, 0);
        parties("no candidate", Boxes.box("", "1", 0, 1, 5), VOTES, 0, 0, 0, 0);
        BallotLoom most = Boxes.box("3", "1111");
        for (int k = 0; k < 24; k++) {
            most.cast(k % 4, 1, 500);
        }
        parties("the most that there can be", most, VOTES, 0, 0, 0, 12000);
    }

    /** Section 4: "A PARTY is BARRED, if 100 times its VOTES is below THRESHOLD" */
    private static void barredIsWhoIsBelow() {
        parties("20 of 100 at 20", barring(Boxes.alone(20, 80), 20), BARRED, 0, 0, 1, 1);
        parties("19 of 100 at 20", barring(Boxes.alone(19, 81), 20), BARRED, 1, 0, 1, 1);
        parties("21 of 100 at 20", barring(Boxes.alone(21, 79), 20), BARRED, 0, 0, 1, 1);
        parties("1 of 100 at 1", barring(Boxes.alone(1, 99), 1), BARRED, 0, 0, 1, 1);
        parties("1 of 101 at 1", barring(Boxes.alone(1, 100), 1), BARRED, 1, 0, 1, 1);
        parties("1 of 5 at 20", barring(Boxes.alone(4, 1), 20), BARRED, 0, 0, 1, 1);
        parties("1 of 6 at 20", barring(Boxes.alone(5, 1), 20), BARRED, 0, 1, 1, 1);
        BallotLoom most = Boxes.box("01", "1");
        for (int k = 0; k < 24; k++) {
            most.cast(0, k < 5 ? 1 : 2, k == 4 ? 400 : 500);
        }
        // 2400 of 11900.
        parties("100 times 2400 to 20 times 11900", barring(most, 20), BARRED, 0, 0, 1, 1);
        most.recount(4, 375);
        // 2375 of 11875 is one fifth.
        parties("100 times 2375 to 20 times 11875", most, BARRED, 0, 0, 1, 1);
        most.recount(4, 374);
        parties("100 times 2374 to 20 times 11874", most, BARRED, 1, 0, 1, 1);
    }

    /** Section 4: "(0 to 20; 0 at first)" */
    private static void thresholdIsZeroToTwenty() {
        BallotLoom x = Boxes.alone(500, 1);
        CHECKS.due("at first", x.many(7), 0);
        parties("at first nobody is barred, not even without votes", x, BARRED, 0, 0, 0, 0);
        CHECKS.badArgument("-1", () -> x.threshold(-1));
        CHECKS.badArgument("21", () -> x.threshold(21));
        CHECKS.due("refused ones leave it", x.many(7), 0);
        x.threshold(20);
        CHECKS.due("20", x.many(7), 20);
        CHECKS.due("back to 0", x.threshold(0), 0);
        parties("at 0 nobody is barred", x, BARRED, 0, 0, 0, 0);
    }

    /** Section 4: "times the VOTES of all." */
    private static void barredIsOfTheVotesOfAll() {
        // Of all 100, not of the 81 of the others, and with those of who is barred.
        BallotLoom x = barring(Boxes.alone(10, 10, 40, 40), 11);
        parties("10 of 100 at 11", x, BARRED, 1, 1, 0, 0);
        parties("10 of 100 at 10", barring(x, 10), BARRED, 0, 0, 0, 0);
        parties("without votes nobody is barred", barring(Boxes.alone(0, 0), 20), BARRED, 0, 0, 0, 0);
        parties("one vote", barring(Boxes.alone(0, 1), 20), BARRED, 1, 0, 1, 1);
    }

    /** Section 4: "A HOUSE of n SEATS (1 to 60)" */
    private static void houseHasOneToSixtySeats() {
        BallotLoom x = Boxes.alone(53, 24, 23);
        for (int rule = 0; rule <= 2; rule++) {
            shares("the smallest house", x, 1, rule, 1, 0, 0, 0);
            int sum = 0;
            for (int party = 0; party < 4; party++) {
                sum += x.share(party, 60, rule);
            }
            CHECKS.due("seats of the greatest house by " + rule, sum, 60);
            int by = rule;
            CHECKS.badArgument("a house of 0", () -> x.share(0, 0, by));
            CHECKS.badArgument("a house of 61", () -> x.share(0, 61, by));
        }
        // 31.8, 14.4 and 13.8: two are left.
        shares("the greatest house", x, 60, 2, 32, 14, 14, 0);
    }

    /** Section 4: "is shared among PARTIES that are not BARRED and have VOTES, by a rule:" */
    private static void housesAreForThoseWithVotes() {
        for (int rule = 0; rule <= 2; rule++) {
            shares("who has none", Boxes.alone(1, 0, 1, 0), 60, rule, 30, 0, 30, 0);
            shares("who has the one vote", Boxes.alone(0, 0, 0, 1), 60, rule, 0, 0, 0, 60);
            shares("at the threshold", barring(Boxes.alone(20, 80), 20), 5, rule, 1, 4, 0, 0);
            shares("below the threshold", barring(Boxes.alone(19, 81), 20), 60, rule, 0, 60, 0, 0);
            int by = rule;
            BallotLoom x = Boxes.alone(1, 1);
            CHECKS.badArgument("a rule of -1", () -> x.share(0, 5, by - 3));
            CHECKS.badArgument("a rule of 3", () -> x.share(0, 5, by + 3));
        }
    }

    /**
     * Section 4: "0 and 1: SEAT by SEAT to the one with the greatest VOTES / (double) divisor, with the divisor 1 and
     * its SEATS so far (rule 0)"
     */
    private static void ruleZeroDividesByEach() {
        BallotLoom x = Boxes.alone(53, 24, 23);
        // 53, 26.5, 24, 23, 17.7, 13.3, 12, 11.5, 10.6
        int[][] due = {
            {1, 0, 0}, {2, 0, 0}, {2, 1, 0}, {2, 1, 1}, {3, 1, 1}, {4, 1, 1}, {4, 2, 1}, {4, 2, 2}, {5, 2, 2}};
        for (int n = 1; n <= due.length; n++) {
            shares("53, 24, 23", x, n, 0, due[n - 1][0], due[n - 1][1], due[n - 1][2], 0);
        }
        // The sixth: as whole numbers both would be 2, and that with more votes would get it.
        shares("8 / 3.0 before 10 / 4.0", Boxes.alone(8, 10), 6, 0, 3, 3, 0, 0);
    }

    /** Section 4: "or 1 and twice these (rule 1)" */
    private static void ruleOneDividesByTheOdd() {
        BallotLoom x = Boxes.alone(53, 24, 23);
        // 53, 24, 23, 17.7, 10.6, 8, 7.67, 7.57
        int[][] due = {{1, 0, 0}, {1, 1, 0}, {1, 1, 1}, {2, 1, 1}, {3, 1, 1}, {3, 2, 1}, {3, 2, 2}, {4, 2, 2}};
        for (int n = 1; n <= due.length; n++) {
            shares("53, 24, 23", x, n, 1, due[n - 1][0], due[n - 1][1], due[n - 1][2], 0);
        }
        shares("4 / 3.0 before 1", Boxes.alone(1, 4), 2, 1, 0, 2, 0, 0);
        shares("2 / 3.0 behind 1", Boxes.alone(1, 2), 2, 1, 1, 1, 0, 0);
        // The fourth: as whole numbers both would be 2.
        shares("8 / 3.0 before 10 / 5.0", Boxes.alone(8, 10), 4, 1, 2, 2, 0, 0);
    }

    /** Section 4: "2: first each gets n times VOTES, divided by the VOTES of all of these" */
    private static void ruleTwoDividesByTheVotesOfAllThatTakePart() {
        shares("4, 2.4, 0.8", Boxes.alone(10, 6, 4), 10, 2, 5, 3, 2, 0);
        shares("whole, nothing is left", Boxes.alone(10, 6, 4), 20, 2, 10, 6, 4, 0);
        shares("one ballot and 60 seats", Boxes.alone(0, 0, 1, 0), 60, 2, 0, 0, 60, 0);
        // 4 of 100 are barred: 40 * 60 / 96 is 25 and no remainder, 56 * 60 / 96 is 35 and none.
        shares("without those that are barred", barring(Boxes.alone(40, 56, 4), 5), 60, 2, 25, 35, 0, 0);
        BallotLoom most = Boxes.box("01", "1");
        for (int k = 0; k < 24; k++) {
            most.cast(0, k == 0 ? 1 : 2, 500);
        }
        // 60 * 500 / 12000 is 2 and a half, 60 * 11500 / 12000 is 57 and a half: the greater party gets the one.
        shares("12000 ballots", most, 60, 2, 2, 58, 0, 0);
    }

    /** Section 4: "what is left of n goes one by one, to the one with the greatest remainder of that division" */
    private static void restGoesToTheGreatestRemainders() {
        // 7 seats: 3.71, 1.68, 1.61; 8 seats: 4.24, 1.92, 1.84.
        shares("53, 24, 23", Boxes.alone(53, 24, 23), 7, 2, 4, 2, 1, 0);
        shares("53, 24, 23", Boxes.alone(53, 24, 23), 8, 2, 4, 2, 2, 0);
        // 1 seat: remainders 1 and 2 of 3.
        shares("1, 2", Boxes.alone(1, 2), 1, 2, 0, 1, 0, 0);
        // 2 seats: 20 / 11 is 1 and leaves 9, 2 / 11 is 0 and leaves 2.
        shares("10, 1", Boxes.alone(10, 1), 2, 2, 2, 0, 0, 0);
        // 6 seats: 60 / 11 is 5 and leaves 5, 6 / 11 is 0 and leaves 6.
        shares("10, 1", Boxes.alone(10, 1), 6, 2, 5, 1, 0, 0);
    }

    /** Section 4: "(each once)." */
    private static void remaindersCountOnce() {
        shares("three seats are left, for four", Boxes.alone(1, 1, 1, 1), 3, 2, 1, 1, 1, 0);
        // 2 seats: remainders 10, 8, 6 of 12: both are left.
        shares("two seats are left, for three", Boxes.alone(5, 4, 3), 2, 2, 1, 1, 0, 0);
        // 3 seats: 15, 12, 9 of 12: 1, 1 and 0, remainders 3, 0, 9.
        shares("one seat is left", Boxes.alone(5, 4, 3), 3, 2, 1, 1, 1, 0);
    }

    /** Section 4: "Of several always the one with more VOTES" */
    private static void ofSeveralTheOneWithMoreVotes() {
        // By 0: 10 / 1 and 20 / 2. By 1: 10 / 1 and 30 / 3. By 2: 2 * 1 of 4 and 2 * 3 of 4 leave 2 each.
        shares("20 / 2 before 10 / 1", Boxes.alone(10, 20), 2, 0, 0, 2, 0, 0);
        shares("20 / 2 before 10 / 1, then 10 / 1", Boxes.alone(10, 20), 3, 0, 1, 2, 0, 0);
        shares("30 / 3 before 10 / 1", Boxes.alone(10, 30), 2, 1, 0, 2, 0, 0);
        shares("30 / 3 before 10 / 1, then 10 / 1", Boxes.alone(10, 30), 3, 1, 1, 2, 0, 0);
        shares("remainders 2 and 2", Boxes.alone(1, 3), 2, 2, 0, 2, 0, 0);
        shares("29 / 3 behind 10 / 1", Boxes.alone(10, 29), 2, 1, 1, 1, 0, 0);
        shares("19 / 2 behind 10 / 1", Boxes.alone(10, 19), 2, 0, 1, 1, 0, 0);
    }

    /** Section 4: "then the smallest number." */
    private static void ofSeveralWithAsManyVotesTheSmallestNumber() {
        for (int rule = 0; rule <= 2; rule++) {
            shares("5, 5, 5", Boxes.alone(5, 5, 5), 1, rule, 1, 0, 0, 0);
            shares("5, 5, 5", Boxes.alone(5, 5, 5), 2, rule, 1, 1, 0, 0);
            shares("5, 5, 5", Boxes.alone(5, 5, 5), 4, rule, 2, 1, 1, 0);
            shares("0, 5, 5", Boxes.alone(0, 5, 5), 1, rule, 0, 1, 0, 0);
            shares("5, 6, 6", Boxes.alone(5, 6, 6), 1, rule, 0, 1, 0, 0);
        }
    }

    /** Section 4: "Without such a PARTY nobody gets any." */
    private static void withoutVotesNobodyGetsAny() {
        for (int rule = 0; rule <= 2; rule++) {
            shares("a new box", new BallotLoom(), 60, rule, 0, 0, 0, 0);
            shares("no ballot", Boxes.alone(0, 0, 0, 0), 1, rule, 0, 0, 0, 0);
            shares("no ballot, at 20", barring(Boxes.alone(0, 0, 0, 0), 20), 60, rule, 0, 0, 0, 0);
            shares("empty lists", Boxes.without(Boxes.alone(5, 5), 0, 1), 60, rule, 0, 0, 0, 0);
            shares("spoiled ones", Boxes.box("01", "1", 0, 11, 5), 60, rule, 0, 0, 0, 0);
            shares("one ballot", Boxes.alone(0, 1), 60, rule, 0, 60, 0, 0);
        }
    }

    /** Section 4: "DIRECT SEATS of a PARTY: DISTRICTS whose winner by the way 0 is of it" */
    private static void directSeatsAreOfTheWinners() {
        BallotLoom x = Boxes.box("0113", "1111", 0, 1, 5, 0, 2, 3, 0, 3, 4, 1, 2, 2, 2, 3, 1, 2, 4, 1, 3, 4, 500);
        parties("4 districts", x, DIRECT, 1, 2, 0, 1);
        x.withdraw(2);
        parties("as 2 withdrew", x, DIRECT, 1, 1, 0, 2);
        BallotLoom all = Boxes.box("2", "1111", 0, 1, 1, 1, 1, 1, 2, 1, 1, 3, 1, 1);
        parties("all districts", all, DIRECT, 0, 0, 4, 0);
    }

    /** Section 4: "(only with a FIRST above 0)." */
    private static void directSeatsNeedAFirst() {
        BallotLoom x = Boxes.box("01", "11", 1, 2, 1);
        CHECKS.due("0 wins without a first", x.winner(0, 0), 0);
        parties("no first, and one", x, DIRECT, 0, 1, 0, 0);
        x.cast(0, 1, 1);
        parties("one first each", x, DIRECT, 1, 1, 0, 0);
        parties("empty lists", Boxes.without(Boxes.alone(5, 0), 0), DIRECT, 0, 0, 0, 0);
        parties("a new box", new BallotLoom(), DIRECT, 0, 0, 0, 0);
    }

    /** Three districts for party 0 with a ballot each, and one for party 1 with 97. */
    private static BallotLoom overhanging() {
        return Boxes.box("01", "1111", 0, 1, 1, 1, 1, 1, 2, 1, 1, 3, 2, 97);
    }

    /** Section 4: "OVERHANG of a HOUSE: over all PARTIES what DIRECT is more than its share" */
    private static void overhangIsWhatDirectIsMore() {
        BallotLoom x = overhanging();
        shares("3 to 97", x, 60, 2, 2, 58, 0, 0);
        CHECKS.due("3 to 2", x.overhang(60, 2), 1);
        shares("3 to 97", x, 30, 2, 1, 29, 0, 0);
        CHECKS.due("3 to 1", x.overhang(30, 2), 2);
        CHECKS.due("3 to none", x.overhang(4, 2), 3);
        x.threshold(4);
        CHECKS.due("who is barred has a share of 0", x.overhang(60, 2), 3);
        // 97 votes and two districts each: party 0, as the smaller number, gets the one seat.
        BallotLoom y = Boxes.box("01", "1111", 0, 1, 50, 1, 1, 47, 2, 2, 47, 3, 2, 50);
        CHECKS.due("2 to 1 and 2 to 0", y.overhang(1, 0), 3);
        CHECKS.due("2 to 1, twice", y.overhang(2, 0), 2);
    }

    /** Section 4: "if it is." */
    private static void overhangIsNeverBelowZero() {
        BallotLoom x = overhanging();
        x.recount(3, 17);
        shares("3 to 17", x, 20, 2, 3, 17, 0, 0);
        CHECKS.due("3 to 3, 1 to 17", x.overhang(20, 2), 0);
        shares("3 to 17", x, 60, 2, 9, 51, 0, 0);
        CHECKS.due("3 to 9, 1 to 51", x.overhang(60, 2), 0);
        shares("3 to 17", x, 13, 2, 2, 11, 0, 0);
        CHECKS.due("3 to 2, 1 to 11: what is less does not make up for it", x.overhang(13, 2), 1);
        CHECKS.due("nobody has any", new BallotLoom().overhang(1, 0), 0);
    }

    /** Section 4: "A set of PARTIES RULES a HOUSE, if its SEATS together, twice, are more than n." */
    private static void moreThanHalfRules() {
        BallotLoom half = Boxes.alone(2, 1, 1);
        shares("2, 1, 1", half, 4, 2, 2, 1, 1, 0);
        CHECKS.due("2 of 4 do not rule", half.coalition(4, 2), 3);
        BallotLoom odd = Boxes.alone(2, 1);
        CHECKS.due("2 of 3 rule", odd.coalition(3, 2), 1);
        BallotLoom more = Boxes.alone(3, 1);
        CHECKS.due("3 of 4 rule", more.coalition(4, 2), 1);
        CHECKS.due("30 of 60 do not rule", Boxes.alone(1, 1).coalition(60, 2), 3);
        CHECKS.due("31 of 60 rule", Boxes.alone(29, 31).coalition(60, 2), 2);
        CHECKS.due("1 of 1 rules", Boxes.alone(0, 1).coalition(1, 2), 2);
        CHECKS.due("0 of 1 does not", Boxes.alone(0, 0).coalition(1, 2), 0);
    }

    /**
     * Section 4: "SWINGS of a PARTY: of the 8 sets without it (the empty one, too) those that do not RULE, and do
     * with it."
     */
    private static void swingsAreOfTheEightSetsWithoutIt() {
        BallotLoom sole = Boxes.alone(0, 0, 7);
        CHECKS.due("who has all swings all 8, the empty one too", sole.swings(2, 20, 0), 8);
        CHECKS.due("who has none swings none", sole.swings(3, 20, 0), 0);
        BallotLoom x = Boxes.alone(2, 1, 1);
        // 2, 1, 1 of 4: for 0 all but the empty one and party 3 alone, for 1 those with 0 and without 2.
        CHECKS.due("2 of 4", x.swings(0, 4, 2), 6);
        CHECKS.due("1 of 4", x.swings(1, 4, 2), 2);
        CHECKS.due("the other 1 of 4", x.swings(2, 4, 2), 2);
        CHECKS.due("0 of 4", x.swings(3, 4, 2), 0);
        BallotLoom y = Boxes.alone(3, 1);
        CHECKS.due("3 of 4 swing all 8", y.swings(0, 4, 2), 8);
        CHECKS.due("1 beside 3 of 4 swings none", y.swings(1, 4, 2), 0);
        CHECKS.due("nobody has any", new BallotLoom().swings(0, 1, 0), 0);
    }

    /**
     * Section 5: "In a DISTRICT, by the way 0: of the VOTES there (of a PARTY: FIRSTS of its CANDIDATES there) WASTED
     * are those of all PARTIES but that of the winner"
     */
    private static void wastedAreVotesOfTheOthers() {
        parties("6, 1, 0, 3", Boxes.alone(6, 1, 0, 3), WASTED, 0, 1, 0, 3);
        // 0 wins with 4; all of party 1 are wasted, though they are more together.
        parties("4 to 3 and 3", Boxes.box("011", "1", 0, 1, 4, 0, 2, 3, 0, 3, 3), WASTED, 0, 6, 0, 0);
        parties("5 to 5: the smaller number wins", Boxes.alone(5, 5), WASTED, 0, 5, 0, 0);
        parties("5 to 6", Boxes.alone(5, 6), WASTED, 5, 0, 0, 0);
    }

    /** Section 5: "and of that one what is above (half of all, rounded down, and 1), 0 at least." */
    private static void wastedIsWhatIsAboveHalfAndOne() {
        parties("6 of 10", Boxes.alone(6, 4), WASTED, 0, 4, 0, 0);
        parties("7 of 10", Boxes.alone(7, 3), WASTED, 1, 3, 0, 0);
        parties("6 of 11", Boxes.alone(6, 5), WASTED, 0, 5, 0, 0);
        parties("7 of 11", Boxes.alone(7, 4), WASTED, 1, 4, 0, 0);
        parties("5 of 10", Boxes.alone(5, 5), WASTED, 0, 5, 0, 0);
        parties("4 of 10: not below 0", Boxes.alone(4, 3, 3), WASTED, 0, 3, 3, 0);
        parties("1 of 1", Boxes.alone(1), WASTED, 0, 0, 0, 0);
        parties("2 of 2", Boxes.alone(2), WASTED, 0, 0, 0, 0);
        parties("3 of 3", Boxes.alone(3), WASTED, 1, 0, 0, 0);
        // Half of 10 and 1 are 6; the party of the winner has 5 and 4.
        parties("5 and 4 of 10", Boxes.box("001", "1", 0, 1, 5, 0, 2, 4, 0, 3, 1), WASTED, 3, 1, 0, 0);
    }

    /** Section 5: "WASTED of a PARTY: in all DISTRICTS with a winner that has a FIRST." */
    private static void wastedIsOfAllDistrictsWithAFirst() {
        BallotLoom x = Boxes.box("0123", "1111", 0, 1, 7, 0, 2, 3, 1, 2, 9, 1, 1, 2, 3, 4, 1);
        // 7 of 10 and 2; 3 and 9 of 11; 1 of 1; and a district without a ballot.
        parties("four districts, one without a ballot", x, WASTED, 1 + 2, 3 + 3, 0, 0);
        parties("none has a first", Boxes.box("01", "11", 0, 11, 9), WASTED, 0, 0, 0, 0);
        parties("no winner", Boxes.without(Boxes.alone(9, 5), 0, 1), WASTED, 0, 0, 0, 0);
        parties("a first in the last one", Boxes.box("01", "1111", 3, 1, 3), WASTED, 1, 0, 0, 0);
        parties("one of one", Boxes.box("01", "1111", 2, 1, 1), WASTED, 0, 0, 0, 0);
    }

    /** Section 5: "The box can be SEALED: nothing is cast, moved or recounted then." */
    private static void sealedHoldsThreeCalls() {
        BallotLoom x = Boxes.sealed(Boxes.some());
        CHECKS.badState("cast", () -> x.cast(0, 1, 1));
        CHECKS.badState("move", () -> x.move(0, 1));
        CHECKS.badState("move to where it is", () -> x.move(0, 0));
        CHECKS.badState("recount", () -> x.recount(0, 5));
        CHECKS.badState("recount to what it is", () -> x.recount(0, 30));
        CHECKS.due("the other calls are not held: candidate", x.candidate(3), 4);
        CHECKS.due("withdraw", x.withdraw(4), 3);
        CHECKS.due("district", x.district(5), 2);
        CHECKS.due("threshold", x.threshold(20), 12);
        CHECKS.due("knock", x.knock(), 1);
        CHECKS.due("wouldWin", x.wouldWin(0, 3, 0), 2);
        CHECKS.due("sealed still", x.seal(false), true);
        CHECKS.due("open: recount", x.recount(0, 5), 30);
        CHECKS.due("open: move", x.move(0, 1), 0);
        CHECKS.due("open: cast", x.cast(0, 1, 1), 4);
    }

    /** Section 5: "Who KNOCKS at it holds nothing, and is REFUSED, SEALED or not." */
    private static void whoKnocksIsRefusedSealedOrNot() {
        BallotLoom x = Boxes.some();
        CHECKS.due("open", x.knock(), 1);
        x.seal(true);
        CHECKS.due("sealed", x.knock(), 2);
        CHECKS.due("it is sealed still", x.many(8), 1);
        CHECKS.badState("a cast that is not allowed has not knocked", () -> x.cast(0, 1, 1));
        x.seal(false);
        CHECKS.due("open again", x.knock(), 3);
        CHECKS.due("it is open still", x.seal(false), false);
        CHECKS.due("all of them", x.many(9), 3);
        CHECKS.due("holds nothing: cast", x.cast(0, 1, 1), 4);
    }
}
