/** Promises 39 to 45: intervals. */
final class IntervalsTest {
    private static final long FAULT = -1000000000L;

    private IntervalsTest() {
    }

    public static void main(String[] args) {
        wholeLattices();
        interval();
        moebius();
        chains();
        maximalChainsAndHeight();
        rankSum();
        characteristic();
        faults();
        statesThatAreMissing();
        Due.end();
    }

    /** The finest in 0 and the coarsest in 1. */
    private static PartitionPoset ends(int n) {
        PartitionPoset x = Due.ofSize(n);
        x.finest(0);
        x.coarsest(1);
        return x;
    }

    private static void wholeLattices() {
        int[] bell = {1, 2, 5, 15, 52, 203};
        int[] moebius = {1, -1, 2, -6, 24, -120};
        int[] maximal = {1, 1, 3, 18, 180, 2700};
        for (int n = 1; n <= 6; n++) {
            PartitionPoset x = ends(n);
            Due.due("39: interval(0, 1) of " + n, x.interval(0, 1), bell[n - 1]);
            Due.due("40: moebius(0, 1) of " + n, x.moebius(0, 1), moebius[n - 1]);
            Due.due("42: maximalChains(0, 1) of " + n, x.maximalChains(0, 1), maximal[n - 1]);
            Due.due("41: chains(0, 1, n - 1) of " + n, x.chains(0, 1, n - 1), maximal[n - 1]);
            Due.due("43: height(0, 1) of " + n, x.height(0, 1), n - 1);
            for (int b = -9; b <= 9; b++) {
                // The characteristic polynomial: (x - 1)(x - 2) .. (x - n + 1)
                long product = 1;
                for (int i = 1; i < n; i++) {
                    product *= b - i;
                }
                Due.due("45: characteristic(0, 1, " + b + ")", x.characteristic(0, 1, b), product);
            }
        }
    }

    private static void interval() {
        PartitionPoset x = ends(4);
        Due.read(x, 2, "01/23");
        Due.due("39: interval(0, 2)", x.interval(0, 2), 4);
        Due.due("39: interval(2, 1)", x.interval(2, 1), 2);
        Due.due("39: interval(2, 2)", x.interval(2, 2), 1);
        Due.due("39: interval(1, 0)", x.interval(1, 0), 0);
        x.allowNumber(2, false);
        Due.due("39: interval(0, 2), the end not admitted", x.interval(0, 2), 3);
        Due.due("39: interval(2, 2), not admitted", x.interval(2, 2), 0);
        Due.due("39: interval(2, 1)", x.interval(2, 1), 1);
    }

    private static void moebius() {
        PartitionPoset x = ends(4);
        Due.read(x, 2, "01/23");
        Due.due("40: moebius(0, 2)", x.moebius(0, 2), 1);
        Due.due("40: moebius(2, 1)", x.moebius(2, 1), -1);
        Due.due("40: moebius(2, 2)", x.moebius(2, 2), 1);
        Due.due("40: moebius(1, 0)", x.moebius(1, 0), 0);
        x.allowNumber(3, false);
        Due.due("40: moebius(0, 2), two steps are one", x.moebius(0, 2), -1);
        Due.due("40: moebius(0, 1), seven between", x.moebius(0, 1), 6);
        x.noncrossing(true);
        Due.due("40: moebius(0, 1), six between", x.moebius(0, 1), 5);
        int[] signedCatalan = {1, -1, 2, -5, 14, -42};
        for (int n = 1; n <= 6; n++) {
            x = ends(n);
            x.noncrossing(true);
            Due.due("40: moebius(0, 1), noncrossing", x.moebius(0, 1), signedCatalan[n - 1]);
        }
    }

    private static void chains() {
        PartitionPoset x = ends(4);
        int[] due = {0, 1, 13, 18, 0, 0};
        for (int k = 0; k <= 5; k++) {
            Due.due("41: chains(0, 1, " + k + ")", x.chains(0, 1, k), due[k]);
            Due.due("41: chains(0, 0, " + k + ")", x.chains(0, 0, k), k == 0 ? 1 : 0);
            Due.due("41: chains(1, 0, " + k + ")", x.chains(1, 0, k), 0);
        }
        x.allowNumber(2, false);
        Due.due("41: chains(0, 1, 2)", x.chains(0, 1, 2), 6);
        Due.due("41: chains(0, 1, 3)", x.chains(0, 1, 3), 0);
        Due.due("41: chains(0, 1, -1)", x.chains(0, 1, -1), -1);
        Due.due("41: chains(0, 1, 6)", x.chains(0, 1, 6), -1);
        Due.due("41: chains(2, 1, 6): BAD before EMPTY", x.chains(2, 1, 6), -1);
        Due.due("41: chains(2, 1, 5)", x.chains(2, 1, 5), -2);
        x.coarsest(3);
        x.unite(0, 0, 1);
        x.unite(0, 2, 3);
        Due.due("41: chains(0, 3, 6): BAD before STATE", x.chains(0, 3, 6), -1);
        Due.due("41: chains(0, 3, 5)", x.chains(0, 3, 5), -3);
    }

    private static void maximalChainsAndHeight() {
        PartitionPoset x = ends(4);
        Due.due("42: maximalChains(0, 0)", x.maximalChains(0, 0), 1);
        Due.due("42: maximalChains(1, 0)", x.maximalChains(1, 0), 0);
        Due.due("43: height(0, 0)", x.height(0, 0), 0);
        Due.due("43: height(1, 0)", x.height(1, 0), -9);
        x.allowSize(3, false);
        // Through the three partitions into pairs, each above two with three blocks.
        Due.due("42: maximalChains(0, 1)", x.maximalChains(0, 1), 6);
        Due.due("43: height(0, 1)", x.height(0, 1), 3);
        x.allowNumber(3, false);
        Due.due("42: maximalChains(0, 1)", x.maximalChains(0, 1), 3);
        Due.due("43: height(0, 1)", x.height(0, 1), 2);
        x.allowNumber(2, false);
        Due.due("42: maximalChains(0, 1), right above", x.maximalChains(0, 1), 1);
        Due.due("43: height(0, 1)", x.height(0, 1), 1);
        x = ends(4);
        x.allowSize(2, false);
        Due.due("42: maximalChains(0, 1), four with three and one", x.maximalChains(0, 1), 4);
        x = ends(6);
        x.noncrossing(true);
        Due.due("42: maximalChains(0, 1), noncrossing", x.maximalChains(0, 1), 1296);
        x = ends(6);
        x.allowSize(3, false);
        x.allowSize(4, false);
        x.allowSize(5, false);
        // 15 with one pair, 45 with two, 15 with three: all chains go through three pairs.
        Due.due("42: maximalChains(0, 1)", x.maximalChains(0, 1), 90);
        Due.due("43: height(0, 1)", x.height(0, 1), 4);
        x.allowSize(3, true);
        x.allowSize(2, false);
        // One block of three, then two: twenty of the one, one of the other above each.
        Due.due("42: maximalChains(0, 1)", x.maximalChains(0, 1), 20);
        Due.due("43: height(0, 1)", x.height(0, 1), 3);
    }

    private static void rankSum() {
        PartitionPoset x = ends(4);
        // 1 + 6 x + 7 x^2 + x^3
        Due.due("44: rankSum(0, 1, 0)", x.rankSum(0, 1, 0), 1);
        Due.due("44: rankSum(0, 1, 1)", x.rankSum(0, 1, 1), 15);
        Due.due("44: rankSum(0, 1, 2)", x.rankSum(0, 1, 2), 49);
        Due.due("44: rankSum(0, 1, -9)", x.rankSum(0, 1, -9), 1 - 54 + 567 - 729);
        Due.due("44: rankSum(0, 1, 9)", x.rankSum(0, 1, 9), 1 + 54 + 567 + 729);
        Due.due("44: rankSum(1, 0, 9)", x.rankSum(1, 0, 9), 0);
        Due.due("44: rankSum(1, 1, 9)", x.rankSum(1, 1, 9), 1);
        x.allowNumber(4, false);
        Due.due("44: rankSum(0, 1, 2), the first not admitted", x.rankSum(0, 1, 2), 48);
        Due.due("44: rankSum(0, 1, 0), the first not admitted", x.rankSum(0, 1, 0), 0);
        Due.due("44: rankSum(0, 1, 10)", x.rankSum(0, 1, 10), FAULT - 1);
        Due.due("44: rankSum(0, 1, -10)", x.rankSum(0, 1, -10), FAULT - 1);
        Due.due("44: rankSum(2, 1, -10): BAD before EMPTY", x.rankSum(2, 1, -10), FAULT - 1);
        Due.due("44: rankSum(2, 1, 0)", x.rankSum(2, 1, 0), FAULT - 2);
    }

    private static void characteristic() {
        PartitionPoset x = ends(4);
        // x^3 - 6 x^2 + 11 x - 6
        Due.due("45: characteristic(0, 1, 0)", x.characteristic(0, 1, 0), -6);
        Due.due("45: characteristic(0, 1, 9)", x.characteristic(0, 1, 9), 729 - 486 + 99 - 6);
        Due.due("45: characteristic(1, 0, 5)", x.characteristic(1, 0, 5), 0);
        Due.due("45: characteristic(1, 1, 0)", x.characteristic(1, 1, 0), 1);
        x.allowNumber(1, false);
        // The second one is not admitted: the sum goes without it.
        Due.due("45: characteristic(0, 1, 0)", x.characteristic(0, 1, 0), 0);
        Due.due("45: characteristic(0, 1, 2)", x.characteristic(0, 1, 2), 8 - 24 + 22);
        Due.due("45: characteristic(1, 1, 2), not admitted", x.characteristic(1, 1, 2), FAULT - 3);
        Due.due("45: characteristic(1, 1, 10): BAD before STATE", x.characteristic(1, 1, 10),
                FAULT - 1);
        Due.due("45: characteristic(1, 2, 9): EMPTY before STATE", x.characteristic(1, 2, 9),
                FAULT - 2);
        Due.due("45: characteristic(2, 1, -10): BAD before EMPTY", x.characteristic(2, 1, -10),
                FAULT - 1);
    }

    private static void faults() {
        PartitionPoset x = Due.ofSize(3);
        x.finest(0);
        long before = x.digest();
        for (int r : new int[] {-1, 8, 1, Integer.MIN_VALUE, Integer.MAX_VALUE}) {
            int due = r == 1 ? -2 : -1;
            Due.due("39: interval(" + r + ", 0)", x.interval(r, 0), due);
            Due.due("39: interval(0, " + r + ")", x.interval(0, r), due);
            Due.due("40: moebius(" + r + ", 0)", x.moebius(r, 0), FAULT + due);
            Due.due("40: moebius(0, " + r + ")", x.moebius(0, r), FAULT + due);
            Due.due("41: chains(" + r + ", 0, 1)", x.chains(r, 0, 1), due);
            Due.due("41: chains(0, " + r + ", 1)", x.chains(0, r, 1), due);
            Due.due("42: maximalChains(" + r + ", 0)", x.maximalChains(r, 0), due);
            Due.due("42: maximalChains(0, " + r + ")", x.maximalChains(0, r), due);
            Due.due("43: height(" + r + ", 0)", x.height(r, 0), due);
            Due.due("43: height(0, " + r + ")", x.height(0, r), due);
            Due.due("44: rankSum(" + r + ", 0, 1)", x.rankSum(r, 0, 1), FAULT + due);
            Due.due("44: rankSum(0, " + r + ", 1)", x.rankSum(0, r, 1), FAULT + due);
            Due.due("45: characteristic(" + r + ", 0, 1)", x.characteristic(r, 0, 1), FAULT + due);
            Due.due("45: characteristic(0, " + r + ", 1)", x.characteristic(0, r, 1), FAULT + due);
        }
        Due.due("39 to 45: digest() after faults", x.digest(), before);
    }

    private static void statesThatAreMissing() {
        PartitionPoset x = ends(3);
        x.allowNumber(1, false);
        for (int r = 0; r <= 1; r++) {
            Due.due("40: moebius", x.moebius(r, 1 - r), FAULT - 3);
            Due.due("41: chains", x.chains(r, 1 - r, 1), -3);
            Due.due("42: maximalChains", x.maximalChains(r, 1 - r), -3);
            Due.due("43: height", x.height(r, 1 - r), -3);
            Due.due("40: moebius, EMPTY before STATE", x.moebius(1, 2), FAULT - 2);
            Due.due("43: height, BAD before STATE", x.height(1, 8), -1);
        }
    }
}
