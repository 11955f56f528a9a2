/** Promises 1 to 10: what is told. Each answer here was worked out by hand. */
final class ToldTest {
    private static final Checks CHECKS = new Checks("ToldTest");

    public static void main(String[] args) {
        promise1NewObject();
        promise2Candidate();
        promise3Withdraw();
        promise3WithdrawnLeavesTheLists();
        promise4District();
        promise5Cast();
        promise5Spoiled();
        promise5SpoiledForGood();
        promise5Wrong();
        promise5Full();
        promise6Recount();
        promise7Move();
        promise8Threshold();
        promise9Seal();
        promise10Knock();
        CHECKS.finish();
    }

    private static void promise1NewObject() {
        BallotLoom x = new BallotLoom();
        for (int what = 0; what <= 9; what++) {
            CHECKS.due("new: many(" + what + ")", x.many(what), 0);
        }
        CHECKS.due("new: an open box", x.seal(true), false);
        CHECKS.due("new: ofParty(0, 0)", x.ofParty(0, 0), 0);
        CHECKS.due("new: share(0, 60, 0)", x.share(0, 60, 0), 0);
        CHECKS.due("new: gap(0, 1)", x.gap(0, 1), 0.0);
        CHECKS.indexOut("new: winner(0, 0)", () -> x.winner(0, 0));
        BallotLoom y = new BallotLoom();
        CHECKS.due("another new one is open", y.seal(false), false);
    }

    private static void promise2Candidate() {
        BallotLoom x = new BallotLoom();
        int[] parties = {0, 3, 1, 2, 3, 0};
        CHECKS.badArgument("candidate(4)", () -> x.candidate(4));
        CHECKS.badArgument("candidate(-1)", () -> x.candidate(-1));
        CHECKS.due("nothing is changed by a throw", x.many(0), 0);
        for (int k = 0; k < parties.length; k++) {
            CHECKS.due("candidate(" + parties[k] + ")", x.candidate(parties[k]), k);
        }
        CHECKS.badState("the seventh", () -> x.candidate(0));
        CHECKS.badArgument("the seventh of party 4", () -> x.candidate(4));
        CHECKS.badArgument("the seventh of a far party", () -> x.candidate(Integer.MIN_VALUE));
        x.withdraw(0);
        CHECKS.badState("who is withdrawn is a candidate still", () -> x.candidate(0));
        CHECKS.due("many(0)", x.many(0), 6);
        CHECKS.due("ofParty(3, 1)", x.ofParty(3, 1), 2);
        CHECKS.due("ofParty(0, 1)", x.ofParty(0, 1), 1);
    }

    private static void promise3Withdraw() {
        BallotLoom x = new BallotLoom();
        CHECKS.indexOut("withdraw(0) of none", () -> x.withdraw(0));
        x.candidate(0);
        x.candidate(1);
        x.candidate(2);
        CHECKS.indexOut("withdraw(3)", () -> x.withdraw(3));
        CHECKS.indexOut("withdraw(-1)", () -> x.withdraw(-1));
        CHECKS.indexOut("withdraw(MAX)", () -> x.withdraw(Integer.MAX_VALUE));
        CHECKS.due("withdraw(1)", x.withdraw(1), 2);
        CHECKS.badState("withdraw(1) again", () -> x.withdraw(1));
        CHECKS.due("nothing is changed by a throw", x.many(1), 2);
        x.seal(true);
        CHECKS.due("withdraw(2), sealed", x.withdraw(2), 1);
        CHECKS.due("withdraw(0)", x.withdraw(0), 0);
        CHECKS.due("candidates stay", x.many(0), 3);
        CHECKS.due("one more stands", x.candidate(1), 3);
        CHECKS.due("many(1)", x.many(1), 1);
    }

    private static void promise3WithdrawnLeavesTheLists() {
        BallotLoom x = new BallotLoom();
        x.candidate(0);
        x.candidate(1);
        x.candidate(2);
        x.district(1);
        x.cast(0, 213, 7);
        x.cast(0, 3, 4);
        CHECKS.due("its list begins with 2", x.ofStack(0, 5), 2);
        x.withdraw(2);
        CHECKS.due("its list is 0, 1 then", x.ofStack(0, 4), 2);
        CHECKS.due("its first one", x.ofStack(0, 5), 0);
        CHECKS.due("ranks stay", x.ofStack(0, 1), 213);
        CHECKS.due("firsts go on", x.firsts(0, 0), 7);
        CHECKS.due("none for who is withdrawn", x.firsts(0, 2), 0);
        CHECKS.due("an empty list is not spoiled", x.ofStack(1, 3), 0);
        CHECKS.due("an empty list has length 0", x.ofStack(1, 4), 0);
        CHECKS.due("an empty list has no first one", x.ofStack(1, 5), -1);
        CHECKS.due("counts of lists that are not empty", x.many(6), 7);
        CHECKS.due("a withdrawn one may be cast still", x.cast(0, 23, 1), 2);
        CHECKS.due("and is not spoiled", x.ofStack(2, 3), 0);
        CHECKS.due("but is not in the list", x.ofStack(2, 5), 1);
    }

    private static void promise4District() {
        BallotLoom x = new BallotLoom();
        CHECKS.badArgument("district(0)", () -> x.district(0));
        CHECKS.badArgument("district(6)", () -> x.district(6));
        CHECKS.due("nothing is changed by a throw", x.many(2), 0);
        CHECKS.due("district(1)", x.district(1), 0);
        CHECKS.due("district(5)", x.district(5), 1);
        CHECKS.due("district(3)", x.district(3), 2);
        CHECKS.due("district(2)", x.district(2), 3);
        CHECKS.badState("the fifth", () -> x.district(2));
        CHECKS.badArgument("the fifth, of 6 seats", () -> x.district(6));
        CHECKS.badArgument("the fifth, of MIN seats", () -> x.district(Integer.MIN_VALUE));
        CHECKS.due("many(2)", x.many(2), 4);
        for (int k = 0; k < 6; k++) {
            x.candidate(0);
        }
        CHECKS.due("5 seats", x.elected(1, 4), 4);
        CHECKS.due("3 seats, the last", x.elected(2, 2), 2);
        CHECKS.due("3 seats, no fourth", x.elected(2, 3), -1);
    }

    private static void promise5Cast() {
        BallotLoom x = new BallotLoom();
        for (int k = 0; k < 6; k++) {
            x.candidate(0);
        }
        x.district(1);
        x.district(1);
        CHECKS.due("cast(1, 654321, 500)", x.cast(1, 654321, 500), 0);
        CHECKS.due("cast(0, 1, 1)", x.cast(0, 1, 1), 1);
        CHECKS.due("cast(0, 999999, 1)", x.cast(0, 999999, 1), 2);
        CHECKS.due("its district", x.ofStack(0, 0), 1);
        CHECKS.due("its ranks", x.ofStack(0, 1), 654321);
        CHECKS.due("its count", x.ofStack(0, 2), 500);
        CHECKS.due("not spoiled", x.ofStack(0, 3), 0);
        CHECKS.due("its length", x.ofStack(0, 4), 6);
        CHECKS.due("the lowest digit is first", x.ofStack(0, 5), 0);
        CHECKS.due("firsts where it was cast", x.firsts(1, 0), 500);
        CHECKS.due("firsts elsewhere", x.firsts(0, 0), 1);
    }

    private static void promise5Spoiled() {
        BallotLoom x = new BallotLoom();
        x.candidate(0);
        x.candidate(1);
        x.candidate(2);
        x.district(1);
        int[] spoiled = {10, 120, 102, 4, 14, 41, 11, 121, 331, 9, 100000, 32132};
        for (int k = 0; k < spoiled.length; k++) {
            x.cast(0, spoiled[k], 1);
            CHECKS.due(spoiled[k] + " is spoiled", x.ofStack(k, 3), 1);
            CHECKS.due(spoiled[k] + " has length 0", x.ofStack(k, 4), 0);
            CHECKS.due(spoiled[k] + " has no first one", x.ofStack(k, 5), -1);
        }
        int[] good = {3, 12, 321, 213, 23};
        for (int k = 0; k < good.length; k++) {
            int stack = x.cast(0, good[k], 1);
            CHECKS.due(good[k] + " is not spoiled", x.ofStack(stack, 3), 0);
            CHECKS.due(good[k] + " is as long as its number", x.ofStack(stack, 4), String.valueOf(good[k]).length());
        }
    }

    private static void promise5SpoiledForGood() {
        BallotLoom x = new BallotLoom();
        x.candidate(0);
        x.district(1);
        x.cast(0, 21, 9);
        x.candidate(1);
        CHECKS.due("a candidate too late does not mend it", x.ofStack(0, 3), 1);
        CHECKS.due("it counts for nothing", x.firsts(0, 0), 0);
        x.cast(0, 21, 4);
        CHECKS.due("the same cast now is good", x.ofStack(1, 3), 0);
        x.withdraw(0);
        CHECKS.due("a withdrawal does not mend it", x.ofStack(0, 4), 0);
        CHECKS.due("nor does it spoil the other", x.ofStack(1, 5), 1);
        CHECKS.due("many(4)", x.many(4), 1);
    }

    private static void promise5Wrong() {
        BallotLoom x = new BallotLoom();
        x.candidate(0);
        CHECKS.indexOut("no district", () -> x.cast(0, 1, 1));
        x.district(1);
        CHECKS.badArgument("ranks 0", () -> x.cast(0, 0, 1));
        CHECKS.badArgument("ranks -1", () -> x.cast(0, -1, 1));
        CHECKS.badArgument("ranks 1000000", () -> x.cast(0, 1000000, 1));
        CHECKS.badArgument("count 0", () -> x.cast(0, 1, 0));
        CHECKS.badArgument("count 501", () -> x.cast(0, 1, 501));
        CHECKS.indexOut("district 1", () -> x.cast(1, 1, 1));
        CHECKS.indexOut("district -1 before ranks", () -> x.cast(-1, 0, 0));
        x.seal(true);
        CHECKS.badState("sealed", () -> x.cast(0, 1, 1));
        CHECKS.badArgument("ranks before sealed", () -> x.cast(0, 0, 1));
        CHECKS.badArgument("count before sealed", () -> x.cast(0, 1, 501));
        CHECKS.indexOut("district before sealed", () -> x.cast(1, 1, 1));
        CHECKS.due("nothing is cast", x.many(3), 0);
        CHECKS.due("who may not cast has not knocked", x.many(9), 0);
        x.seal(false);
        CHECKS.due("opened again", x.cast(0, 1, 1), 0);
    }

    private static void promise5Full() {
        BallotLoom x = new BallotLoom();
        x.candidate(0);
        x.district(1);
        for (int k = 0; k < 24; k++) {
            CHECKS.due("cast number " + k, x.cast(0, 1, 500), k);
        }
        CHECKS.badState("the 25th", () -> x.cast(0, 1, 1));
        CHECKS.badArgument("the 25th of ranks 0", () -> x.cast(0, 0, 1));
        CHECKS.indexOut("the 25th in no district", () -> x.cast(1, 1, 1));
        CHECKS.due("all counts", x.many(5), 12000);
        CHECKS.due("all firsts", x.firsts(0, 0), 12000);
    }

    private static void promise6Recount() {
        BallotLoom x = new BallotLoom();
        x.candidate(0);
        x.district(1);
        CHECKS.indexOut("no stack", () -> x.recount(0, 1));
        x.cast(0, 1, 30);
        x.cast(0, 2, 5);
        CHECKS.due("recount(0, 500)", x.recount(0, 500), 30);
        CHECKS.due("recount(0, 1)", x.recount(0, 1), 500);
        CHECKS.due("recount of a spoiled one", x.recount(1, 6), 5);
        CHECKS.due("firsts", x.firsts(0, 0), 1);
        CHECKS.due("counts", x.many(5), 7);
        CHECKS.badArgument("recount(0, 0)", () -> x.recount(0, 0));
        CHECKS.badArgument("recount(0, 501)", () -> x.recount(0, 501));
        CHECKS.indexOut("recount(2, 0)", () -> x.recount(2, 0));
        CHECKS.indexOut("recount(-1, 1)", () -> x.recount(-1, 1));
        x.seal(true);
        CHECKS.badState("sealed", () -> x.recount(0, 2));
        CHECKS.badArgument("count before sealed", () -> x.recount(0, 0));
        CHECKS.indexOut("stack before sealed", () -> x.recount(2, 1));
        CHECKS.due("nothing is changed", x.ofStack(0, 2), 1);
    }

    private static void promise7Move() {
        BallotLoom x = new BallotLoom();
        x.candidate(0);
        x.district(1);
        x.district(1);
        CHECKS.indexOut("no stack", () -> x.move(0, 0));
        x.cast(0, 1, 30);
        CHECKS.due("move(0, 1)", x.move(0, 1), 0);
        CHECKS.due("move(0, 1) where it is", x.move(0, 1), 1);
        CHECKS.due("its district", x.ofStack(0, 0), 1);
        CHECKS.due("firsts there", x.firsts(1, 0), 30);
        CHECKS.due("firsts here", x.firsts(0, 0), 0);
        CHECKS.indexOut("move(1, 0)", () -> x.move(1, 0));
        CHECKS.indexOut("move(-1, 0)", () -> x.move(-1, 0));
        CHECKS.indexOut("move(0, 2)", () -> x.move(0, 2));
        CHECKS.indexOut("move(0, -1)", () -> x.move(0, -1));
        x.seal(true);
        CHECKS.badState("sealed", () -> x.move(0, 0));
        CHECKS.indexOut("stack before sealed", () -> x.move(1, 0));
        CHECKS.indexOut("district before sealed", () -> x.move(0, 2));
        CHECKS.due("nothing is changed", x.ofStack(0, 0), 1);
    }

    private static void promise8Threshold() {
        BallotLoom x = new BallotLoom();
        CHECKS.due("nobody is barred without votes", x.threshold(20), 0);
        x.candidate(0);
        x.candidate(1);
        x.candidate(2);
        x.district(1);
        x.cast(0, 1, 80);
        x.cast(0, 2, 13);
        x.cast(0, 3, 7);
        CHECKS.due("threshold(0)", x.threshold(0), 0);
        CHECKS.due("threshold(1): who has none is below", x.threshold(1), 8);
        CHECKS.due("threshold(7): 7 of 100 is not below", x.threshold(7), 8);
        CHECKS.due("threshold(8)", x.threshold(8), 12);
        CHECKS.due("threshold(13)", x.threshold(13), 12);
        CHECKS.due("threshold(14)", x.threshold(14), 14);
        CHECKS.badArgument("threshold(21)", () -> x.threshold(21));
        CHECKS.badArgument("threshold(-1)", () -> x.threshold(-1));
        CHECKS.due("nothing is changed by a throw", x.many(7), 14);
        x.seal(true);
        CHECKS.due("threshold(20), sealed", x.threshold(20), 14);
        CHECKS.due("many(7)", x.many(7), 20);
    }

    private static void promise9Seal() {
        BallotLoom x = new BallotLoom();
        CHECKS.due("seal(false), open", x.seal(false), false);
        CHECKS.due("seal(true), open", x.seal(true), false);
        CHECKS.due("seal(true), sealed", x.seal(true), true);
        CHECKS.due("many(8)", x.many(8), 1);
        CHECKS.due("a candidate is told all the same", x.candidate(0), 0);
        CHECKS.due("a district is told all the same", x.district(1), 0);
        CHECKS.due("seal(false), sealed", x.seal(false), true);
        CHECKS.due("many(8) then", x.many(8), 0);
        CHECKS.due("cast, as it is open again", x.cast(0, 1, 1), 0);
    }

    private static void promise10Knock() {
        BallotLoom x = new BallotLoom();
        CHECKS.due("knock() at an open box", x.knock(), 1);
        x.seal(true);
        CHECKS.due("knock() at a sealed one", x.knock(), 2);
        x.seal(false);
        CHECKS.due("knock() again", x.knock(), 3);
        CHECKS.due("many(9)", x.many(9), 3);
        CHECKS.due("it holds nothing", x.many(3), 0);
    }
}
