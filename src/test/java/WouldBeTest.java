/** Promises 26 to 29: what would be. Each answer here was worked out by hand. */
final class WouldBeTest {
    private static final Checks CHECKS = new Checks("WouldBeTest");

    public static void main(String[] args) {
        promise26Margin();
        promise26Wrong();
        promise27WouldWin();
        promise27ChangesNothing();
        promise27Wrong();
        promise28LieByFirsts();
        promise28LieByPoints();
        promise28LieOfSeveral();
        promise28Wrong();
        promise29Digest();
        promise29DigestOfAll();
        CHECKS.finish();
    }

    /** A district, and a candidate of party 0 for each count, alone on a stack with it (none with 0). */
    private static BallotLoom alone(int... counts) {
        BallotLoom x = new BallotLoom();
        x.district(1);
        for (int k = 0; k < counts.length; k++) {
            x.candidate(0);
        }
        for (int k = 0; k < counts.length; k++) {
            if (counts[k] > 0) {
                x.cast(0, k + 1, counts[k]);
            }
        }
        return x;
    }

    private static void promise26Margin() {
        CHECKS.due("8 to 5: 6 to 7", alone(8, 5, 4).margin(0), 2);
        CHECKS.due("8 to 4: 5 to 7", alone(8, 4).margin(0), 3);
        CHECKS.due("4 to 8: 6 to 6 is enough for 0", alone(4, 8).margin(0), 2);
        CHECKS.due("5 to 8: 7 to 6", alone(5, 8).margin(0), 2);
        CHECKS.due("6 to 6: 5 to 7", alone(6, 6).margin(0), 1);
        CHECKS.due("1 to 0: 0 to 1", alone(1, 0).margin(0), 1);
        CHECKS.due("0 to 1: 1 to 0", alone(0, 1).margin(0), 1);
        CHECKS.due("3, 6 and 4: the last one needs 2, the first one 2", alone(3, 6, 4).margin(0), 2);
        CHECKS.due("4, 6 and 4: the first one needs 1", alone(4, 6, 4).margin(0), 1);
        CHECKS.due("10, 10 and 2: the second one", alone(10, 10, 2).margin(0), 1);
        CHECKS.due("12000 to 0", most().margin(0), 6001);
    }

    private static BallotLoom most() {
        BallotLoom x = alone(0, 0);
        for (int k = 0; k < 24; k++) {
            x.cast(0, 1, 500);
        }
        return x;
    }

    private static void promise26Wrong() {
        BallotLoom x = alone(8, 5, 4);
        CHECKS.indexOut("margin(1)", () -> x.margin(1));
        CHECKS.indexOut("margin(-1)", () -> x.margin(-1));
        x.withdraw(1);
        CHECKS.due("who is withdrawn does not win", x.margin(0), 3);
        x.withdraw(2);
        CHECKS.due("only one stands", x.margin(0), -1);
        x.withdraw(0);
        CHECKS.due("none stands", x.margin(0), -1);
        CHECKS.due("no first", alone(0, 0, 0).margin(0), -1);
    }

    private static void promise27WouldWin() {
        BallotLoom x = alone(5, 4, 3);
        CHECKS.due("for 1 in place of 2", x.wouldWin(2, 2, 0), 1);
        CHECKS.due("for 1 behind 2, by firsts", x.wouldWin(2, 23, 0), 0);
        CHECKS.due("for 1 behind 2, by rounds", x.wouldWin(2, 23, 3), 1);
        // Points 10 + 2, 8 + 5/2 and 3 with 0 behind 2; else 8 + 5/2 + 3 with 1 behind it to 12, or less.
        CHECKS.due("for 1 behind 2, by points", x.wouldWin(2, 23, 1), 1);
        CHECKS.due("for 0 behind 2, by points", x.wouldWin(2, 13, 1), 0);
        CHECKS.due("for 1 behind 2, by paths", x.wouldWin(2, 23, 2), 1);
        CHECKS.due("spoiled, with a digit above", x.wouldWin(0, 41, 0), 1);
        CHECKS.due("spoiled, with a digit twice", x.wouldWin(0, 11, 0), 1);
        CHECKS.due("spoiled, with a digit 0", x.wouldWin(0, 10, 0), 1);
        BallotLoom y = alone(3, 4);
        y.cast(0, 3, 2);
        CHECKS.due("a spoiled one would count", y.wouldWin(2, 1, 0), 0);
        CHECKS.due("as it was cast", y.wouldWin(2, 3, 0), 1);
        y.candidate(0);
        CHECKS.due("as it would be cast now", y.wouldWin(2, 3, 3), 1);
        CHECKS.due("of those that there are now", y.wouldWin(1, 3, 0), 2);
    }

    private static void promise27ChangesNothing() {
        BallotLoom x = alone(5, 4, 3);
        x.district(2);
        x.seal(true);
        long before = x.digest();
        for (int way = 0; way <= 3; way++) {
            x.wouldWin(0, 3, way);
            x.wouldWin(2, 99, way);
            x.lie(2, way);
        }
        CHECKS.due("nothing is changed", x.digest(), before);
        CHECKS.due("its ranks", x.ofStack(2, 1), 3);
        x.seal(false);
        x.move(2, 1);
        CHECKS.due("in the district where it is now", x.wouldWin(2, 2, 0), 1);
        x.withdraw(1);
        CHECKS.due("to nobody who is withdrawn", x.wouldWin(2, 2, 0), 0);
        x.withdraw(0);
        x.withdraw(2);
        CHECKS.due("nobody stands", x.wouldWin(2, 2, 0), -1);
    }

    private static void promise27Wrong() {
        BallotLoom x = alone(5, 4, 3);
        CHECKS.indexOut("wouldWin(3, 1, 0)", () -> x.wouldWin(3, 1, 0));
        CHECKS.indexOut("wouldWin(-1, 0, 4)", () -> x.wouldWin(-1, 0, 4));
        CHECKS.badArgument("wouldWin(0, 0, 0)", () -> x.wouldWin(0, 0, 0));
        CHECKS.badArgument("wouldWin(0, 1000000, 0)", () -> x.wouldWin(0, 1000000, 0));
        CHECKS.badArgument("wouldWin(0, 1, 4)", () -> x.wouldWin(0, 1, 4));
        CHECKS.badArgument("wouldWin(0, 1, -1)", () -> x.wouldWin(0, 1, -1));
    }

    private static void promise28LieByFirsts() {
        BallotLoom x = alone(0, 3, 4);
        x.cast(0, 21, 2);
        // 2 wins with 4, and is behind all of the list 0, 1; with 1 first 1 has 5.
        CHECKS.due("1 is better than nobody of the list", x.lie(2, 0), 1);
        // Points 15 / 2, 10 and 19 / 2: 1 wins already.
        CHECKS.due("by points not", x.lie(2, 1), -1);
        // 0 goes out first, with 2, and 1 has 5 then: no lie is needed.
        CHECKS.due("by rounds not", x.lie(2, 3), -1);
        CHECKS.due("who is content", x.lie(1, 0), -1);
        CHECKS.due("who can't help it", x.lie(0, 0), -1);
        x.recount(2, 1);
        CHECKS.due("1 would have 4 of 4, and the smaller number", x.lie(2, 0), 1);
        x.withdraw(1);
        CHECKS.due("0 is all of its list", x.lie(2, 0), -1);
        x.withdraw(0);
        CHECKS.due("an empty list", x.lie(2, 0), -1);
        CHECKS.due("a list of one", x.lie(1, 0), -1);
    }

    private static void promise28LieByPoints() {
        BallotLoom x = new BallotLoom();
        for (int k = 0; k < 4; k++) {
            x.candidate(0);
        }
        x.district(1);
        x.cast(0, 4321, 4);
        x.cast(0, 3, 4);
        x.cast(0, 123, 3);
        // Points: 12 + 4 + 3, 8 + 4 + 6, 4 + 12 + 9, 0 + 4 + 0: 2 wins, as third in the list of the first stack.
        CHECKS.due("points of 2", x.points(0, 2), 25.0);
        // With 1 first: 15, 22, 25; with 3 first: 15, 14, 21, 16: 2 wins all the same.
        CHECKS.due("no lie helps", x.lie(0, 1), -1);
        x.recount(0, 7);
        // Points: 21 + 7, 14 + 10, 7 + 21: 0 wins, being the smaller number.
        CHECKS.due("who is content", x.lie(0, 1), -1);
        // For the last stack, of 2, 1, 0: with 1 first 1 has 14 + 4 + 9, and 0 has 28 still.
        CHECKS.due("no lie helps it", x.lie(2, 1), -1);
        x.recount(2, 5);
        x.recount(1, 2);
        // Points: 21 + 2 + 5, 14 + 2 + 10, 7 + 6 + 15: 0 has 28, 1 has 26, 2 has 28; with 1 first 1 has 31.
        CHECKS.due("points of 1", x.points(0, 1), 26.0);
        CHECKS.due("1 is better than 0", x.lie(2, 1), 1);
        spoiledLies(x);
    }

    private static void promise28LieOfSeveral() {
        BallotLoom x = alone(0, 2, 4, 5);
        x.cast(0, 321, 2);
        // 3 wins with 5, behind the list 0, 1, 2; with 1 first 1 has 4, with 2 first 2 has 6.
        CHECKS.due("the last one of the list", x.lie(3, 0), 2);
        x.recount(0, 4);
        CHECKS.due("1 and 2 would win: 1 is farther ahead", x.lie(3, 0), 1);
        BallotLoom y = alone(4, 0, 1, 0);
        y.cast(0, 134, 6);
        y.cast(0, 4213, 4);
        // The list 2, 0, 1, 3: 1 goes out, 0 with 4 goes out, and 3 has 6 of 11: the last one.
        CHECKS.due("the last one wins", y.winner(0, 3), 3);
        // With 0 first it has 8 of 15. With 1 first 2 goes out, then 1 (17 points to 23), and 0 has 8 of 14.
        CHECKS.due("0 and 1 both make 0 win: 0 comes first", y.lie(3, 3), 0);
    }

    private static void spoiledLies(BallotLoom x) {
        int spoiled = x.cast(0, 22, 100);
        for (int way = 0; way <= 3; way++) {
            CHECKS.due("a spoiled one, by " + way, x.lie(spoiled, way), -1);
        }
    }

    private static void promise28Wrong() {
        BallotLoom x = alone(5, 4, 3);
        CHECKS.indexOut("lie(3, 0)", () -> x.lie(3, 0));
        CHECKS.indexOut("lie(-1, 4)", () -> x.lie(-1, 4));
        CHECKS.badArgument("lie(0, 4)", () -> x.lie(0, 4));
        CHECKS.badArgument("lie(0, -1)", () -> x.lie(0, -1));
        x.cast(0, 11, 1);
        CHECKS.badArgument("lie(3, 4) of a spoiled one", () -> x.lie(3, 4));
    }

    private static void promise29Digest() {
        BallotLoom x = new BallotLoom();
        // 10 of many, 4 parties of 5 and 6, 3 coalitions: 57 times 0.
        long due = 58308;
        for (int k = 0; k < 57; k++) {
            due *= 31;
        }
        CHECKS.due("digest() of a new one", x.digest(), due);
        CHECKS.due("digest() changes nothing", x.digest(), due);
        x.knock();
        long knocked = 58308;
        for (int k = 0; k < 57; k++) {
            knocked = knocked * 31 + (k == 9 ? 1 : 0);
        }
        CHECKS.due("digest() after knock()", x.digest(), knocked);
    }

    /** Every part, asked for one by one. */
    private static void promise29DigestOfAll() {
        BallotLoom x = alone(5, 4, 3);
        x.district(3);
        x.candidate(2);
        x.cast(1, 24, 9);
        x.cast(1, 341, 8);
        x.cast(1, 55, 7);
        x.threshold(5);
        x.withdraw(2);
        CHECKS.due("digest() of all", x.digest(), digestByCalls(x));
    }

    private static long digestByCalls(BallotLoom x) {
        long d = 58308;
        for (int what = 0; what <= 9; what++) {
            d = d * 31 + x.many(what);
        }
        for (int s = 0; s < x.many(3); s++) {
            for (int what = 0; what <= 5; what++) {
                d = d * 31 + x.ofStack(s, what);
            }
            d = d * 31 + (long) (1024 * x.worth(s));
        }
        for (int k = 0; k < x.many(2); k++) {
            d = districtByCalls(x, k, d);
        }
        for (int p = 0; p < 4; p++) {
            for (int what = 0; what <= 4; what++) {
                d = d * 31 + x.ofParty(p, what);
            }
            for (int rule = 0; rule <= 2; rule++) {
                d = d * 31 + x.share(p, 20, rule);
                d = d * 31 + x.swings(p, 20, rule);
            }
        }
        for (int rule = 0; rule <= 2; rule++) {
            d = d * 31 + x.coalition(20, rule);
        }
        return d;
    }

    private static long districtByCalls(BallotLoom x, int district, long start) {
        long d = start;
        for (int way = 0; way <= 3; way++) {
            d = d * 31 + x.winner(district, way);
        }
        for (int round = 0; round <= 5; round++) {
            d = d * 31 + x.out(district, round);
        }
        for (int seat = 0; seat <= 4; seat++) {
            d = d * 31 + x.elected(district, seat);
        }
        d = d * 31 + x.margin(district);
        for (int c = 0; c < x.many(0); c++) {
            d = d * 31 + x.firsts(district, c);
            d = d * 31 + (long) (2 * x.points(district, c));
        }
        return d;
    }
}
