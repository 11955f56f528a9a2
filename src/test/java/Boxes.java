import java.util.Arrays;

/** Makes boxes for the tests of the bounds. */
final class Boxes {
    /** Makes the same box each time. */
    interface Maker {
        BallotLoom make();
    }

    private static final int[] SIX_LISTS = {654321, 123456, 345612, 21, 365, 46};

    private Boxes() {
    }

    /** A candidate of each of these parties, a district of each of these seats, and stacks: each three numbers. */
    static BallotLoom box(String parties, String seats, int... stacks) {
        BallotLoom x = new BallotLoom();
        for (char party : parties.toCharArray()) {
            x.candidate(party - '0');
        }
        for (char seat : seats.toCharArray()) {
            x.district(seat - '0');
        }
        return cast(x, stacks);
    }

    /** Casts stacks: district, ranks and count of each. */
    static BallotLoom cast(BallotLoom x, int... stacks) {
        for (int k = 0; k + 2 < stacks.length; k += 3) {
            x.cast(stacks[k], stacks[k + 1], stacks[k + 2]);
        }
        return x;
    }

    /** The same, with candidates that withdraw then. */
    static BallotLoom without(BallotLoom x, int... withdrawn) {
        for (int candidate : withdrawn) {
            x.withdraw(candidate);
        }
        return x;
    }

    static BallotLoom sealed(BallotLoom x) {
        x.seal(true);
        return x;
    }

    /** Three candidates, two districts, a stack in each, one that is spoiled, and a candidate who withdrew. */
    static BallotLoom some() {
        return without(box("0120", "21", 0, 321, 30, 1, 12, 20, 0, 11, 9, 0, 42, 7), 3);
    }

    /** As many candidates, districts and stacks as there can be. */
    static BallotLoom full() {
        BallotLoom x = box("012301", "1253");
        for (int k = 0; k < 24; k++) {
            x.cast(k % 4, SIX_LISTS[k % SIX_LISTS.length], 500 - 17 * k);
        }
        return x;
    }

    /** One district of one seat; a candidate for each count (party 0, 1, 2 and 3 from then on), alone in a list. */
    static BallotLoom alone(int... counts) {
        BallotLoom x = box("012333".substring(0, counts.length), "1");
        for (int k = 0; k < counts.length; k++) {
            if (counts[k] > 0) {
                x.cast(0, k + 1, counts[k]);
            }
        }
        return x;
    }

    /**
     * Stacks of district 0 by which, of n candidates, one is ahead of another one by twice the count; in threes:
     * one, other, count. Each comes to a stack with both first, the rest upwards, and a stack with the rest
     * downwards, both last, so that all other pairs are level.
     */
    static int[] majorities(int n, int... threes) {
        int[] stacks = new int[threes.length * 2];
        int at = 0;
        for (int k = 0; k < threes.length; k += 3) {
            for (boolean isFirst : new boolean[] {true, false}) {
                stacks[at + 1] = ranksWith(n, threes[k], threes[k + 1], isFirst);
                stacks[at + 2] = threes[k + 2];
                at += 3;
            }
        }
        return stacks;
    }

    private static int ranksWith(int n, int one, int other, boolean isFirst) {
        int[] list = new int[n];
        int at = isFirst ? 2 : 0;
        for (int k = 0; k < n; k++) {
            int c = isFirst ? k : n - 1 - k;
            if (c != one && c != other) {
                list[at] = c;
                at++;
            }
        }
        list[isFirst ? 0 : n - 2] = one;
        list[isFirst ? 1 : n - 1] = other;
        return ranks(list);
    }

    /** The number whose digits, from the lowest one on, are 1 and the candidate. */
    static int ranks(int... list) {
        int ranks = 0;
        for (int k = list.length - 1; k >= 0; k--) {
            ranks = ranks * 10 + list[k] + 1;
        }
        return ranks;
    }

    static int[] joined(int[] one, int... other) {
        int[] all = Arrays.copyOf(one, one.length + other.length);
        System.arraycopy(other, 0, all, one.length, other.length);
        return all;
    }
}
