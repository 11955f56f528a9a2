import java.math.BigInteger;
import java.util.ArrayList;
import java.util.List;

/** The bounds that promises 26 to 29 name, what would be; a test for each sentence. */
final class WouldBeBoundsTest {
    private static final Checks CHECKS = new Checks("WouldBeBoundsTest");
    private static final Edges EDGES = new Edges(CHECKS);

    public static void main(String[] args) {
        Sentences.test(WouldBeBoundsTest.class, CHECKS);
    }

    private static BallotLoom noStack() {
        return Boxes.box("01", "1");
    }

    /**
     * Promise 26: "district: a DISTRICT", "Returns the smallest number, so that there is another one that STANDS and
     * would win by the way 0, if so many ballots had that one first in place of the winner by that way"
     */
    private static void marginIsTheSmallestNumber() {
        CHECKS.due("5 to 5: 4 to 6", Boxes.alone(5, 5).margin(0), 1);
        CHECKS.due("6 to 5: 5 to 6", Boxes.alone(6, 5).margin(0), 1);
        CHECKS.due("6 to 4: 5 to 5 are not enough", Boxes.alone(6, 4).margin(0), 2);
        CHECKS.due("7 to 4: 5 to 6", Boxes.alone(7, 4).margin(0), 2);
        CHECKS.due("8 to 4: 6 to 6 are not enough", Boxes.alone(8, 4).margin(0), 3);
        CHECKS.due("5 to 6: 6 to 5", Boxes.alone(5, 6).margin(0), 1);
        CHECKS.due("4 to 6: 5 to 5 are enough for the smaller number", Boxes.alone(4, 6).margin(0), 1);
        CHECKS.due("4 to 7: 6 to 5", Boxes.alone(4, 7).margin(0), 2);
        CHECKS.due("4 to 8: 6 to 6", Boxes.alone(4, 8).margin(0), 2);
        CHECKS.due("1 to 0", Boxes.alone(1, 0).margin(0), 1);
        CHECKS.due("0 to 1", Boxes.alone(0, 1).margin(0), 1);
        CHECKS.due("0 to 2", Boxes.alone(0, 2).margin(0), 1);
        CHECKS.due("2 to 0", Boxes.alone(2, 0).margin(0), 2);
    }

    /** Promise 26: "there is another one that STANDS" */
    private static void marginIsToAnyOtherOne() {
        CHECKS.due("3, 8, 6: 6 and 8 to 7 and 7 are not enough for 2", Boxes.alone(3, 8, 6).margin(0), 2);
        CHECKS.due("6, 8, 3: 7 and 7 are enough for 0", Boxes.alone(6, 8, 3).margin(0), 1);
        CHECKS.due("5, 8, 6: 0 needs 2 as 2 does", Boxes.alone(5, 8, 6).margin(0), 2);
        CHECKS.due("5, 9, 6: 0 needs 2, and so does 2", Boxes.alone(5, 9, 6).margin(0), 2);
        CHECKS.due("all level", Boxes.alone(4, 4, 4, 4, 4, 4).margin(0), 1);
        BallotLoom x = Boxes.alone(9, 8, 3);
        CHECKS.due("to 1", x.margin(0), 1);
        // Lists of 1 are empty then: 9 to 3 needs 4.
        CHECKS.due("1 withdrew: to 2", Boxes.without(x, 1).margin(0), 4);
        BallotLoom most = Boxes.box("01", "1");
        for (int k = 0; k < 24; k++) {
            most.cast(0, 1, 500);
        }
        CHECKS.due("12000 to 0", most.margin(0), 6001);
    }

    /** Promise 26: "; NONE, if fewer than two STAND" */
    private static void marginOfFewerThanTwo() {
        CHECKS.due("two stand", Boxes.alone(5, 0).margin(0), 3);
        CHECKS.due("one stands", Boxes.alone(5).margin(0), -1);
        CHECKS.due("one of two stands", Boxes.without(Boxes.alone(5, 3), 1).margin(0), -1);
        CHECKS.due("the other one of two stands", Boxes.without(Boxes.alone(5, 3), 0).margin(0), -1);
        CHECKS.due("two of three stand", Boxes.without(Boxes.alone(5, 3, 1), 0).margin(0), 2);
        CHECKS.due("none of two stands", Boxes.without(Boxes.alone(5, 3), 0, 1).margin(0), -1);
        CHECKS.due("no candidate", Boxes.box("", "1").margin(0), -1);
    }

    /** Promise 26: ", or the winner has no FIRST." */
    private static void marginOfNoFirst() {
        CHECKS.due("no ballot", Boxes.alone(0, 0).margin(0), -1);
        CHECKS.due("one ballot", Boxes.alone(0, 0, 1).margin(0), 1);
        CHECKS.due("a spoiled one", Boxes.box("01", "1", 0, 11, 5).margin(0), -1);
        CHECKS.due("an empty one", Boxes.without(Boxes.alone(0, 0, 5), 2).margin(0), -1);
        CHECKS.due("one elsewhere", Boxes.box("01", "11", 1, 1, 5).margin(0), -1);
        CHECKS.due("that one elsewhere", Boxes.box("01", "11", 1, 1, 5).margin(1), 3);
    }

    /** Promise 26: "Throws IndexOutOfBoundsException if there is no such DISTRICT" */
    private static void marginOfNoDistrict() {
        EDGES.none(Edges.INDEX, "margin", () -> Boxes.box("01", ""), (x, v) -> x.margin(v));
        EDGES.within(Edges.INDEX, "margin of 2", Boxes::some, 0, 1, (x, v) -> x.margin(v));
        EDGES.within(Edges.INDEX, "margin of 4", Boxes::full, 0, 3, (x, v) -> x.margin(v));
    }

    /**
     * Promise 27: "stack: a STACK", "ranks: RANKS", "way: a way", "Returns who would win in its DISTRICT by that way"
     */
    private static void wouldWinIsInItsDistrict() {
        BallotLoom x = Boxes.box("012", "11", 0, 1, 5, 0, 2, 4, 1, 3, 9);
        for (int way = 0; way <= 3; way++) {
            CHECKS.due("as it is, by " + way, x.wouldWin(0, 1, way), 0);
            CHECKS.due("for 2, by " + way, x.wouldWin(0, 3, way), 2);
            CHECKS.due("for 1, by " + way, x.wouldWin(0, 2, way), 1);
            CHECKS.due("elsewhere, by " + way, x.wouldWin(2, 2, way), 1);
            CHECKS.due("the winner now, by " + way, x.winner(0, way), 0);
        }
        x.recount(1, 5);
        CHECKS.due("5 for 1 and 5 for 2", x.wouldWin(0, 3, 0), 1);
        CHECKS.due("5 for 0 and 5 for 1", x.wouldWin(1, 2, 0), 0);
    }

    /** Promise 27: ", if it was cast with these RANKS now" */
    private static void wouldWinJudgesTheRanksNow() {
        BallotLoom x = Boxes.box("0", "1", 0, 1, 4, 0, 2, 5);
        CHECKS.due("2 is above the number yet", x.wouldWin(1, 2, 0), 0);
        x.candidate(1);
        CHECKS.due("2 is not above the number now", x.wouldWin(1, 2, 0), 1);
        CHECKS.due("it is spoiled itself still", x.ofStack(1, 3), 1);
        CHECKS.due("3 is above the number", x.wouldWin(0, 3, 0), 0);
        x.cast(0, 2, 1);
        CHECKS.due("a digit that comes twice counts for nothing", x.wouldWin(0, 11, 0), 1);
        CHECKS.due("a digit 0 counts for nothing", x.wouldWin(0, 10, 0), 1);
        CHECKS.due("999999 counts for nothing", x.wouldWin(0, 999999, 0), 1);
        x.withdraw(1);
        CHECKS.due("who withdrew is passed by", x.wouldWin(1, 12, 0), 0);
        x.seal(true);
        CHECKS.due("sealed or not", x.wouldWin(0, 1, 0), 0);
        CHECKS.due("full or not", Boxes.full().wouldWin(23, 1, 0) >= 0, true);
    }

    /** Promise 27: "; NONE, if nobody would." */
    private static void wouldWinOfNobody() {
        BallotLoom x = Boxes.without(Boxes.box("01", "1", 0, 1, 4), 0);
        for (int way = 0; way <= 3; way++) {
            CHECKS.due("one stands, by " + way, x.wouldWin(0, 1, way), 1);
        }
        Boxes.without(x, 1);
        for (int way = 0; way <= 3; way++) {
            CHECKS.due("none stands, by " + way, x.wouldWin(0, 21, way), -1);
            CHECKS.due("no candidate, by " + way, Boxes.box("", "1", 0, 1, 1).wouldWin(0, 1, way), -1);
        }
    }

    /** Promise 27: "Throws IndexOutOfBoundsException if there is no such STACK" */
    private static void wouldWinOfNoStack() {
        EDGES.none(Edges.INDEX, "wouldWin", WouldBeBoundsTest::noStack, (x, v) -> x.wouldWin(v, 1, 0));
        EDGES.within(Edges.INDEX, "wouldWin of 4", Boxes::some, 0, 3, (x, v) -> x.wouldWin(v, 1, 3));
        EDGES.within(Edges.INDEX, "wouldWin of 24", Boxes::full, 0, 23, (x, v) -> x.wouldWin(v, 1, 2));
    }

    /** Promise 27: "Throws IllegalArgumentException if ranks is not 1 to 999999" */
    private static void wouldWinWithNoRanks() {
        for (int w = 0; w <= 3; w++) {
            int way = w;
            EDGES.within(Edges.ARGUMENT, "ranks by " + w, Boxes::some, 1, 999999, (x, v) -> x.wouldWin(1, v, way));
        }
    }

    /** Promise 27: ", or way not 0 to 3" */
    private static void wouldWinByNoWay() {
        EDGES.within(Edges.ARGUMENT, "way", Boxes::some, 0, 3, (x, v) -> x.wouldWin(1, 12, v));
        EDGES.within(Edges.ARGUMENT, "way, with spoiled ranks", Boxes::full, 0, 3, (x, v) -> x.wouldWin(1, 11, v));
    }

    /**
     * Promise 28: "stack: a STACK", "way: a way", "Returns which one of its LIST it should put first (the others of
     * the LIST behind it in their order), so that by that way the winner is as far ahead in its LIST, as it is now,
     * as can be"
     */
    private static void liePutsOneFirst() {
        // Lists 3 of 1, 4 of 2, 2 of 0, 1: with 1 first 1 has 5.
        CHECKS.due("1 is better than who is not in the list",
                Boxes.box("012", "1", 0, 2, 3, 0, 3, 4, 0, 21, 2).lie(2, 0), 1);
        CHECKS.due("of itself as well", Boxes.box("012", "1", 0, 2, 3, 0, 3, 4, 0, 21, 2).wouldWin(2, 12, 0), 1);
        // Lists 3 of 1, 4 of 2, 5 of 3, 2 of 0, 1, 2, 3: 3 wins, the last one of that list.
        BallotLoom x = Boxes.box("0123", "1", 0, 2, 3, 0, 3, 4, 0, 4, 5, 0, 4321, 2);
        CHECKS.due("1 would win with 5, 2 with 6: 1 is farther ahead", x.lie(3, 0), 1);
        x.recount(0, 2);
        CHECKS.due("1 would have 4, 2 would win with 6", x.lie(3, 0), 2);
        x.recount(1, 2);
        CHECKS.due("2 would have 4 as well", x.lie(3, 0), -1);
        // Lists 7 of 0, 1, 2, 3; 2 of 2; 5 of 2, 1, 0: points of 0 are 21 + 2 + 5, of 1 14 + 2 + 10, of 2 7 + 6 + 15.
        BallotLoom y = Boxes.box("0123", "1", 0, 4321, 7, 0, 3, 2, 0, 123, 5);
        CHECKS.due("points of 0", y.points(0, 0), 28.0);
        CHECKS.due("points of 1", y.points(0, 1), 26.0);
        CHECKS.due("points of 2", y.points(0, 2), 28.0);
        CHECKS.due("with 1, 2, 0 of these 1 has 31, 0 has 28, 2 has 23", y.lie(2, 1), 1);
    }

    /** Promise 28: "(the others of the LIST behind it in their order)" */
    private static void lieLeavesTheOthersInTheirOrder() {
        // Lists 2 of 1, 0, 2; 3 of 1, 2; 3 of 2, 0, 1; 3 of 0, 1: 2 goes out with 9 points (0 has 11), 0 has 6 of 11.
        BallotLoom x = Boxes.box("012", "1", 0, 312, 2, 0, 32, 3, 0, 213, 3, 0, 21, 3);
        CHECKS.due("0 wins by rounds", x.winner(0, 3), 0);
        // By 2, 1, 0 it is 0 that goes out, with 9 points (1 has 11), and 1 has 6 of 11. By 2, 0, 1 it would be 1
        // that goes out, with 9 points (0 has 11), and 2 would have 8.
        CHECKS.due("2 before 1 and 0", x.lie(0, 3), 2);
        CHECKS.due("2 before 1 and 0: 1 wins", x.wouldWin(0, 123, 3), 1);
        CHECKS.due("2 before 0 and 1: 2 wins", x.wouldWin(0, 213, 3), 2);
        // Lists 1 of 2, 1, 0; 4 of 2, 0; 4 of 1, 2; 2 of 0, 1, 2: paths 0 to 2 are 6, back 9; all others are 6.
        BallotLoom y = Boxes.box("012", "1", 0, 123, 1, 0, 13, 4, 0, 32, 4, 0, 321, 2);
        CHECKS.due("1 wins by paths", y.winner(0, 2), 1);
        // By 0, 2, 1 the steps 0 to 1, 1 to 2, 2 to 0 are 7, 6, 8; by 0, 1, 2 they would be 7, 7, 8.
        CHECKS.due("0 before 2 and 1", y.lie(0, 2), 0);
        CHECKS.due("0 before 2 and 1: 2 wins", y.wouldWin(0, 231, 2), 2);
        CHECKS.due("0 before 1 and 2: 1 wins", y.wouldWin(0, 321, 2), 1);
        // Lists 2, 3, 0, 1 and 1, 2, 3: 1 is level with all, 0 is behind 2 and 3. With 3 first 0 is so still; with 0
        // first it is level with all.
        BallotLoom z = Boxes.box("0123", "1", 0, 2143, 1, 0, 432, 1);
        CHECKS.due("1 wins by paths, the last one", z.winner(0, 2), 1);
        CHECKS.due("3 before 2, 0, 1 is no better", z.wouldWin(0, 2134, 2), 1);
        CHECKS.due("0 before 2, 3, 1", z.lie(0, 2), 0);
    }

    /** Terms: "what would be (nothing is changed)" Nor is it kept for what is asked next. */
    private static void whatWouldBeIsNotKept() {
        int[] heap = {0, 1, 9, 1, 2, 3, 1, 3, 4, 1, 21, 2};
        Edges.Call[] calls = {
            x -> x.many(0), x -> x.wouldWin(0, 1, 0), x -> x.wouldWin(3, 11, 1), x -> x.wouldWin(3, 3, 2),
            x -> x.lie(0, 3), x -> x.wouldWin(0, 999999, 3), x -> x.winner(0, 3)};
        for (int k = 0; k < calls.length; k++) {
            BallotLoom x = Boxes.box("012", "11", heap);
            calls[k].on(x);
            CHECKS.due("lie in the other district after call " + k, x.lie(3, 0), 1);
            calls[k].on(x);
            CHECKS.due("wouldWin in the other district after call " + k, x.wouldWin(3, 2, 0), 1);
            calls[k].on(x);
            CHECKS.due("who wins after call " + k, x.winner(1, 0), 2);
        }
    }

    /** Promise 28: "; of several the one that is first in its LIST" */
    private static void lieOfSeveralTheFirst() {
        // Lists 4 of 0; 1 of 2; 6 of 3, 2, 0; 4 of 2, 0, 1, 3: 1 and 0 go out, 3 has 6 of 11.
        BallotLoom x = Boxes.box("0123", "1", 0, 1, 4, 0, 3, 1, 0, 134, 6, 0, 4213, 4);
        CHECKS.due("the last one of its list wins", x.winner(0, 3), 3);
        CHECKS.due("with 0 first 0 has 8 of 15", x.wouldWin(3, 4231, 3), 0);
        // 2 goes out with 1, then 1 with 4 and 17 points (0 has 4 and 23): 0 has 8 of 14.
        CHECKS.due("with 1 first 0 wins too", x.wouldWin(3, 4132, 3), 0);
        CHECKS.due("0 comes first in the list", x.lie(3, 3), 0);
    }

    /** Promise 28: "; NONE, if none is better than its LIST as it is" */
    private static void lieThatIsNoBetter() {
        BallotLoom x = Boxes.box("012", "1", 0, 1, 5, 0, 21, 1, 0, 32, 1, 0, 3, 9);
        // 2 with 9 wins; 0 with 6 and 1 with 1.
        CHECKS.due("who wins is behind the list, and no lie helps", x.lie(1, 0), -1);
        CHECKS.due("who wins is first in the list", x.lie(3, 0), -1);
        CHECKS.due("who wins is last in the list, and no lie helps", x.lie(2, 0), -1);
        CHECKS.due("a list of one who does not win", x.lie(0, 0), -1);
        x.recount(3, 6);
        // 0 and 2 with 6: 0 wins.
        CHECKS.due("level, and the smaller number: who wins is first", x.lie(1, 0), -1);
        // The list 1, 2 has 1: with 2 first 2 has 7.
        CHECKS.due("one ballot is better then", x.lie(2, 0), 2);
        x.recount(3, 5);
        CHECKS.due("6 to 6 is not", x.lie(2, 0), -1);
        Boxes.without(x, 2);
        CHECKS.due("an empty list", x.lie(3, 0), -1);
    }

    /** Promise 28: ", or if it is SPOILED." */
    private static void lieOfASpoiledOne() {
        int[] heap = {0, 2, 3, 0, 3, 4};
        CHECKS.due("were it not spoiled", Boxes.box("012", "1", Boxes.joined(heap, 0, 21, 2)).lie(2, 0), 1);
        for (int way = 0; way <= 3; way++) {
            CHECKS.due("a digit twice, by " + way,
                    Boxes.box("012", "1", Boxes.joined(heap, 0, 121, 2)).lie(2, way), -1);
            CHECKS.due("a digit 0, by " + way,
                    Boxes.box("012", "1", Boxes.joined(heap, 0, 201, 2)).lie(2, way), -1);
            CHECKS.due("a digit too high, by " + way,
                    Boxes.box("012", "1", Boxes.joined(heap, 0, 421, 2)).lie(2, way), -1);
        }
    }

    /** Promise 28: "(Who is not in the LIST is behind all of it.)" */
    private static void whoIsNotInTheListIsBehind() {
        // Lists 3 of 1, 4 of 2, and 2 of 0, 1 or of 0, 1, 2.
        BallotLoom out = Boxes.box("012", "1", 0, 2, 3, 0, 3, 4, 0, 21, 2);
        BallotLoom last = Boxes.box("012", "1", 0, 2, 3, 0, 3, 4, 0, 321, 2);
        CHECKS.due("2 wins, behind the list 0, 1: 1 is better", out.lie(2, 0), 1);
        CHECKS.due("2 wins, the last one of 0, 1, 2: 1 is better", last.lie(2, 0), 1);
        // 3 wins and is in no list but its own; with 2 first 2 wins, the last one of its list.
        BallotLoom x = Boxes.box("0123", "1", 0, 3, 4, 0, 4, 5, 0, 321, 2);
        CHECKS.due("the last one of the list is better than who is not in it", x.lie(2, 0), 2);
        BallotLoom y = Boxes.box("0123", "1", 0, 3, 4, 0, 4, 5, 0, 21, 2);
        CHECKS.due("who is not in the list can't be put first", y.lie(2, 0), -1);
    }

    /** Promise 28: "Throws IndexOutOfBoundsException if there is no such STACK" */
    private static void lieOfNoStack() {
        EDGES.none(Edges.INDEX, "lie", WouldBeBoundsTest::noStack, (x, v) -> x.lie(v, 0));
        EDGES.within(Edges.INDEX, "lie of 4", Boxes::some, 0, 3, (x, v) -> x.lie(v, 3));
        EDGES.within(Edges.INDEX, "lie of 24", Boxes::full, 0, 23, (x, v) -> x.lie(v, 2));
    }

    /** Promise 28: "Throws IllegalArgumentException if way is not 0 to 3" */
    private static void lieByNoWay() {
        EDGES.within(Edges.ARGUMENT, "way", Boxes::some, 0, 3, (x, v) -> x.lie(0, v));
        EDGES.within(Edges.ARGUMENT, "way, of a spoiled one", Boxes::some, 0, 3, (x, v) -> x.lie(2, v));
    }

    /** Terms: "If several exceptions apply, the one that is named first is thrown." Those of promises 27 and 28. */
    private static void stacksAreNamedFirst() {
        EDGES.refused(Edges.INDEX, "wouldWin: stack and ranks", Boxes::some, x -> x.wouldWin(4, 0, 0));
        EDGES.refused(Edges.INDEX, "wouldWin: stack and way", Boxes::some, x -> x.wouldWin(-1, 1, 4));
        EDGES.refused(Edges.INDEX, "wouldWin: all of them", Boxes::some, x -> x.wouldWin(4, 1000000, -1));
        EDGES.refused(Edges.ARGUMENT, "wouldWin: ranks and way", Boxes::some, x -> x.wouldWin(3, 0, 4));
        EDGES.refused(Edges.INDEX, "lie: stack and way", Boxes::some, x -> x.lie(4, 4));
        EDGES.refused(Edges.INDEX, "lie: stack -1 and way -1", Boxes::some, x -> x.lie(-1, -1));
    }

    /** Promise 29: "Computes a checksum. A number d starts with 58308; then d becomes d * 31 + v" */
    private static void digestStartsWith58308() {
        // A new box has 10 of many, 4 parties of 5 and 6, and 3 coalitions: 57 times 0.
        long d = 58308;
        for (int k = 0; k < 57; k++) {
            d *= 31;
        }
        CHECKS.due("a new box", new BallotLoom().digest(), d);
        BallotLoom x = new BallotLoom();
        x.knock();
        // A 1 as the last of many, with 47 more behind it.
        long one = 1;
        for (int k = 0; k < 47; k++) {
            one *= 31;
        }
        CHECKS.due("as one has knocked", x.digest(), d + one);
    }

    /** Promise 29: ", which wraps around as a 64-bit integer" */
    private static void digestWrapsAround() {
        BigInteger most = BigInteger.valueOf(Long.MAX_VALUE);
        BigInteger whole = BigInteger.ONE.shiftLeft(64);
        Boxes.Maker[] boxes = {
            BallotLoom::new, Boxes::some, Boxes::full, () -> Boxes.alone(5, 3), () -> Boxes.alone(1)};
        boolean isBelow = false;
        boolean isAbove = false;
        for (Boxes.Maker box : boxes) {
            BigInteger d = BigInteger.valueOf(58308);
            for (long v : all(box.make())) {
                d = d.multiply(BigInteger.valueOf(31)).add(BigInteger.valueOf(v));
            }
            CHECKS.due("it is far above 64 bits", d.compareTo(most) > 0, true);
            BigInteger rest = d.mod(whole);
            BigInteger due = rest.compareTo(most) > 0 ? rest.subtract(whole) : rest;
            CHECKS.due("what is left of it", box.make().digest(), due.longValueExact());
            isBelow |= due.signum() < 0;
            isAbove |= due.signum() > 0;
        }
        CHECKS.due("some are below 0, some above", isBelow && isAbove, true);
    }

    /**
     * Promise 29: ", for each v in this order: many() of 0 to 9; STACK by STACK ofStack() of 0 to 5, 1024 times
     * worth() (whole then); DISTRICT by DISTRICT winner() of 0 to 3, out() of 0 to 5, elected() of 0 to 4, margin(),
     * CANDIDATE by CANDIDATE firsts(), 2 times points() (whole then); PARTY by PARTY ofParty() of 0 to 4, share() and
     * swings() of a HOUSE of 20 by the rules 0 to 2 (for each rule share() and then swings()); coalition() of 20 by
     * the rules 0 to 2.", "Returns d."
     */
    private static void digestIsInThisOrder() {
        Boxes.Maker[] boxes = {
            Boxes::some, Boxes::full, () -> Boxes.sealed(Boxes.without(Boxes.full(), 1, 4)),
            () -> Boxes.without(Boxes.some(), 0, 1, 2), () -> Boxes.box("", "12", 0, 1, 3),
            () -> Boxes.box("03", ""), () -> Boxes.box("012", "25", 0, 21, 4, 0, 21, 3, 0, 2, 3, 0, 23, 3),
            () -> Boxes.alone(4, 3, 0, 2), () -> Boxes.alone(52, 25, 23)};
        BallotLoom rules = Boxes.alone(52, 25, 23);
        CHECKS.due("11 of 20 by rule 0", rules.coalition(20, 0), 1);
        CHECKS.due("10 of 20 by rule 2", rules.coalition(20, 2), 3);
        for (int k = 0; k < boxes.length; k++) {
            long d = 58308;
            for (long v : all(boxes[k].make())) {
                d = d * 31 + v;
            }
            CHECKS.due("box " + k, boxes[k].make().digest(), d);
            BallotLoom x = boxes[k].make();
            x.digest();
            CHECKS.due("box " + k + " again", x.digest(), d);
        }
    }

    /** Each v of the digest, asked for by the other calls (of a full box some 340). */
    private static List<Long> all(BallotLoom x) {
        List<Long> all = new ArrayList<>();
        for (int what = 0; what <= 9; what++) {
            all.add((long) x.many(what));
        }
        for (int stack = 0; stack < all.get(3); stack++) {
            for (int what = 0; what <= 5; what++) {
                all.add((long) x.ofStack(stack, what));
            }
            all.add(whole(1024 * x.worth(stack)));
        }
        for (int district = 0; district < all.get(2); district++) {
            addDistrict(all, x, district);
        }
        for (int party = 0; party < 4; party++) {
            for (int what = 0; what <= 4; what++) {
                all.add((long) x.ofParty(party, what));
            }
            for (int rule = 0; rule <= 2; rule++) {
                all.add((long) x.share(party, 20, rule));
                all.add((long) x.swings(party, 20, rule));
            }
        }
        for (int rule = 0; rule <= 2; rule++) {
            all.add((long) x.coalition(20, rule));
        }
        return all;
    }

    private static void addDistrict(List<Long> all, BallotLoom x, int district) {
        for (int way = 0; way <= 3; way++) {
            all.add((long) x.winner(district, way));
        }
        for (int round = 0; round <= 5; round++) {
            all.add((long) x.out(district, round));
        }
        for (int seat = 0; seat <= 4; seat++) {
            all.add((long) x.elected(district, seat));
        }
        all.add((long) x.margin(district));
        for (int candidate = 0; candidate < all.get(0); candidate++) {
            all.add((long) x.firsts(district, candidate));
            all.add(whole(2 * x.points(district, candidate)));
        }
    }

    private static long whole(double value) {
        CHECKS.due(value + " is whole", (double) (long) value, value);
        return (long) value;
    }
}
