/**
 * No admitted partition, and a register whose partition is not admitted: what each method that
 * names these answers, and that all others take no notice.
 */
final class NotAdmittedTest {
    private static final long FAULT = Calls.LONG_FAULT;

    private NotAdmittedTest() {
    }

    public static void main(String[] args) {
        for (int n = 1; n <= 6; n++) {
            for (int way = 0; way < 3; way++) {
                if (way < 2 || n > 1) {
                    noneAdmitted(noneLeft(n, way), n);
                }
            }
        }
        stepsFromOneThatIsNot();
        boundsOfThoseThatAreNot();
        covers();
        intervalsWithoutTheirEnds();
        valuesOfIntervals();
        characteristic();
        median();
        unrestrictedMethods();
        complement();
        Due.end();
    }

    /** The finest in 0, the coarsest in 1, and nothing admitted, in one of three ways. */
    private static PartitionPoset noneLeft(int n, int way) {
        PartitionPoset x = Due.ofSize(n);
        x.finest(0);
        x.coarsest(1);
        for (int k = 1; k <= n && way < 2; k++) {
            if (way == 0) {
                x.allowSize(k, false);
            } else {
                x.allowNumber(k, false);
            }
        }
        if (way == 2) {
            x.apart(n - 1, 0, true);
            x.together(0, n - 1, true);
        }
        return x;
    }

    private static void noneAdmitted(PartitionPoset x, int n) {
        int states = x.told(8);
        Due.due("33: count() of none", x.count(), 0);
        for (int k = 1; k <= 6; k++) {
            Due.due("34: countWith(" + k + ") of none", x.countWith(k), 0);
        }
        Due.due("21: unrank(0, 0) of none", x.unrank(0, 0), -1);
        Due.due("24: draw(0, 0) of none", x.draw(0, 0), -3);
        Due.due("24: draw(7, 1) of none", x.draw(7, 1), -3);
        Due.due("48: median(1, 0) of none", x.median(1, 0), -3);
        Due.due("48: median(3, 7) of none", x.median(3, 7), -3);
        for (int r = 0; r <= 1; r++) {
            Due.due("30: index of none", x.index(r), -9);
            Due.holds("31: why of none", x.why(r) > 0);
            Due.holds("32: where of none", x.where(r) >= 0);
            Due.due("36: covers, none admitted", x.covers(r, false), -3);
            Due.due("36: covers down, none admitted", x.covers(r, true), -3);
            for (int s = 0; s <= 1; s++) {
                noneBetween(x, r, s);
            }
        }
        Due.due("51: digest() of none", x.digest(), Due.digestByWord(x));
        Due.due("told(8) after all these", x.told(8), states);
        Due.due("22: next(1), none admitted", x.next(1), -9);
        Due.due("23: previous(0), none admitted", x.previous(0), -9);
        Due.due("50: told(8), both recorded", x.told(8), Math.min(states + 2, 10));
        Due.due("25: blocks(0) stays", x.blocks(0), n);
        Due.due("25: blocks(1) stays", x.blocks(1), 1);
    }

    private static void noneBetween(PartitionPoset x, int r, int s) {
        for (int flag = 0; flag <= 1; flag++) {
            Due.due("37: bounds, none admitted", x.bounds(r, s, flag == 1), 0);
            Due.due("38: bound, none admitted", x.bound(r, s, flag == 1, 0), -3);
            Due.due("38: bound, none admitted", x.bound(r, s, flag == 1, 7), -3);
        }
        Due.due("39: interval, none admitted", x.interval(r, s), 0);
        Due.due("40: moebius, none admitted", x.moebius(r, s), FAULT - 3);
        Due.due("41: chains, none admitted", x.chains(r, s, 0), -3);
        Due.due("41: chains, none admitted", x.chains(r, s, 5), -3);
        Due.due("42: maximalChains, none admitted", x.maximalChains(r, s), -3);
        Due.due("43: height, none admitted", x.height(r, s), -3);
        Due.due("44: rankSum, none admitted", x.rankSum(r, s, 0), 0);
        Due.due("44: rankSum, none admitted", x.rankSum(r, s, 9), 0);
        Due.due("45: characteristic, none admitted", x.characteristic(r, s, 0), FAULT - 3);
        Due.due("45: characteristic, none admitted", x.characteristic(r, s, 9), FAULT - 3);
    }

    /** Four elements: 0000, 0012, 0102, 0112, 0120, 0121, 0122 and 0123 are left. */
    private static PartitionPoset withoutTwoBlocks() {
        PartitionPoset x = Due.ofSize(4);
        x.finest(0);
        x.coarsest(1);
        Due.read(x, 2, "01/23");
        Due.read(x, 3, "013/2");
        x.allowNumber(2, false);
        return x;
    }

    private static void stepsFromOneThatIsNot() {
        PartitionPoset x = withoutTwoBlocks();
        Due.due("30: index(2)", x.index(2), -9);
        Due.due("31: why(2)", x.why(2), 2);
        Due.due("32: where(2)", x.where(2), 2);
        Due.due("22: next(2)", x.next(2), 1);
        Due.growthIs(x, 2, "0012");
        Due.read(x, 2, "01/23");
        Due.due("23: previous(2)", x.previous(2), 0);
        Due.growthIs(x, 2, "0000");
        Due.read(x, 2, "02/13");
        Due.due("23: previous(2)", x.previous(2), 1);
        Due.growthIs(x, 2, "0012");
        Due.read(x, 2, "0/123");
        Due.due("22: next(2)", x.next(2), 3);
        Due.growthIs(x, 2, "0112");
        // Before the first one that is admitted, and behind the last one.
        x.allowNumber(1, false);
        x.allowNumber(4, false);
        Due.due("22: next(1), to the first of all", x.next(1), 0);
        Due.growthIs(x, 1, "0012");
        Due.due("23: previous(0), to the last of all", x.previous(0), 5);
        Due.growthIs(x, 0, "0122");
    }

    private static void boundsOfThoseThatAreNot() {
        PartitionPoset x = withoutTwoBlocks();
        // 01/2/3 and 0/1/23 are below 01/23, and only the coarsest one is above it.
        Due.due("37: bounds(2, 2, true)", x.bounds(2, 2, true), 2);
        Due.due("37: bounds(2, 2, false)", x.bounds(2, 2, false), 1);
        Due.due("38: bound(2, 2, true, 4)", x.bound(2, 2, true, 4), -3);
        Due.due("38: bound(2, 2, false, 4)", x.bound(2, 2, false, 4), 0);
        Due.growthIs(x, 4, "0000");
        // 01/2/3 is below both; 013/2 is above 013/2 alone, but not admitted.
        Due.due("37: bounds(2, 3, true)", x.bounds(2, 3, true), 1);
        Due.due("38: bound(2, 3, true, 5)", x.bound(2, 3, true, 5), 1);
        Due.growthIs(x, 5, "0012");
        Due.due("38: bound(3, 0, false, 6)", x.bound(3, 0, false, 6), 0);
        Due.growthIs(x, 6, "0000");
    }

    /** "STATE if its partition is not admitted", and only admitted ones are counted. */
    private static void covers() {
        PartitionPoset x = withoutTwoBlocks();
        Due.due("36: covers(2, false)", x.covers(2, false), -3);
        Due.due("36: covers(2, true)", x.covers(2, true), -3);
        Due.due("36: covers(0, false)", x.covers(0, false), 6);
        Due.due("36: covers(0, true)", x.covers(0, true), 0);
        Due.due("36: covers(1, true)", x.covers(1, true), 6);
        Due.due("36: covers(1, false)", x.covers(1, false), 0);
        Due.read(x, 5, "0/1/23");
        Due.due("36: covers(5, false)", x.covers(5, false), 1);
        Due.due("36: covers(5, true)", x.covers(5, true), 1);
        x.allowNumber(3, false);
        Due.due("36: covers(0, false)", x.covers(0, false), 1);
        Due.due("36: covers(1, true)", x.covers(1, true), 1);
    }

    /** "(a and b themselves are among them only if they are admitted)" */
    private static void intervalsWithoutTheirEnds() {
        PartitionPoset x = withoutTwoBlocks();
        Due.due("39: interval(0, 1), both ends", x.interval(0, 1), 8);
        Due.due("39: interval(0, 2), the upper end not", x.interval(0, 2), 3);
        Due.due("39: interval(2, 1), the lower end not", x.interval(2, 1), 1);
        Due.due("39: interval(2, 2), neither", x.interval(2, 2), 0);
        Due.due("39: interval(2, 3), not below", x.interval(2, 3), 0);
        // Ranks 0, 1, 1 above the finest one; 1 above 01/23, which is not there itself.
        Due.due("44: rankSum(0, 2, 3), the upper end not", x.rankSum(0, 2, 3), 1 + 3 + 3);
        Due.due("44: rankSum(0, 2, 0)", x.rankSum(0, 2, 0), 1);
        Due.due("44: rankSum(2, 1, 3), the lower end not", x.rankSum(2, 1, 3), 3);
        Due.due("44: rankSum(2, 1, 0), 0 to the power of 1", x.rankSum(2, 1, 0), 0);
        Due.due("44: rankSum(2, 2, 0), neither", x.rankSum(2, 2, 0), 0);
        Due.due("44: rankSum(0, 1, 3)", x.rankSum(0, 1, 3), 1 + 6 * 3 + 27);
    }

    /** "STATE if one of the partitions is not admitted": the first, the second, both. */
    private static void valuesOfIntervals() {
        PartitionPoset x = withoutTwoBlocks();
        int[][] pairs = {{0, 2}, {2, 0}, {1, 2}, {2, 1}, {2, 2}, {2, 3}};
        for (int[] pair : pairs) {
            String rs = "(" + pair[0] + ", " + pair[1] + ")";
            Due.due("40: moebius" + rs, x.moebius(pair[0], pair[1]), FAULT - 3);
            for (int k = 0; k <= 5; k++) {
                Due.due("41: chains" + rs, x.chains(pair[0], pair[1], k), -3);
            }
            Due.due("42: maximalChains" + rs, x.maximalChains(pair[0], pair[1]), -3);
            Due.due("43: height" + rs, x.height(pair[0], pair[1]), -3);
        }
        Due.due("40: moebius(0, 1)", x.moebius(0, 1), 5);
        Due.due("41: chains(0, 1, 2)", x.chains(0, 1, 2), 6);
        Due.due("42: maximalChains(0, 1)", x.maximalChains(0, 1), 6);
        Due.due("43: height(0, 1)", x.height(0, 1), 2);
    }

    /** "STATE if the first partition is not admitted": the second one need not be. */
    private static void characteristic() {
        PartitionPoset x = withoutTwoBlocks();
        Due.due("45: characteristic(2, 1, 1)", x.characteristic(2, 1, 1), FAULT - 3);
        Due.due("45: characteristic(2, 2, 1)", x.characteristic(2, 2, 1), FAULT - 3);
        Due.due("45: characteristic(2, 0, 1), not below", x.characteristic(2, 0, 1), FAULT - 3);
        // The finest one has the value 1, the two below 01/23 have -1 each.
        Due.due("45: characteristic(0, 2, 5)", x.characteristic(0, 2, 5), 25 - 5 - 5);
        Due.due("45: characteristic(0, 2, 0)", x.characteristic(0, 2, 0), 0);
        Due.due("45: characteristic(0, 1, 5)", x.characteristic(0, 1, 5), 125 - 6 * 25 + 5);
        Due.due("45: characteristic(1, 2, 5), not below", x.characteristic(1, 2, 5), 0);
        Due.due("45: characteristic(1, 0, 5), not below", x.characteristic(1, 0, 5), 0);
    }

    /** The partitions of the registers need not be admitted, the median must be. */
    private static void median() {
        PartitionPoset x = withoutTwoBlocks();
        // 01/23 differs from 01/2/3 and from 0/1/23 by one pair: the first of them is 0012.
        Due.due("48: median(4, 6)", x.median(4, 6), 1);
        Due.growthIs(x, 6, "0012");
        x.together(0, 2, true);
        // Only 0000 and 0102 are left: they differ by four pairs, and by three.
        Due.due("33: count()", x.count(), 2);
        Due.due("48: median(4, 2)", x.median(4, 2), 3);
        Due.growthIs(x, 2, "0102");
    }

    /** "The registers can hold partitions that are not admitted." */
    private static void unrestrictedMethods() {
        PartitionPoset x = noneLeft(4, 2);
        Due.due("10: read(2)", Due.read(x, 2, "03/12"), 2);
        Due.due("11: finest(0)", x.finest(0), 4);
        Due.due("12: coarsest(1)", x.coarsest(1), 1);
        Due.due("13: copy(2, 3)", x.copy(2, 3), 2);
        Due.due("14: meet(1, 2, 4)", x.meet(1, 2, 4), 2);
        Due.due("15: join(0, 2, 5)", x.join(0, 2, 5), 2);
        Due.due("16: unite(5, 0, 1)", x.unite(5, 0, 1), 1);
        Due.due("17: isolate(5, 1)", x.isolate(5, 1), 2);
        Due.due("18: swap(5, 1, 2)", x.swap(5, 1, 2), 1);
        Due.due("19: rotate(5)", x.rotate(5), 1);
        Due.growthIs(x, 5, "0001");
        Due.due("20: complement(2, 6)", x.complement(2, 6), 3);
        Due.due("25: blocks(5)", x.blocks(5), 2);
        Due.due("26: blockOf(5, 3)", x.blockOf(5, 3), 1);
        Due.due("27: block(5, 1)", x.block(5, 1), 8);
        Due.due("28: typeOf(5)", x.typeOf(5), 65);
        Due.due("29: crossings(5)", x.crossings(5), 0);
        Due.due("35: below(0, 5)", x.below(0, 5), 1);
        Due.due("46: transfers(0, 5)", x.transfers(0, 5), 2);
        Due.due("47: disagreements(0, 5)", x.disagreements(0, 5), 3);
    }

    /** "STATE if its partition is crossing", whether noncrossing is demanded or not. */
    private static void complement() {
        for (int demanded = 0; demanded <= 1; demanded++) {
            PartitionPoset x = Due.ofSize(5);
            Due.read(x, 0, "02/134");
            Due.read(x, 1, "04/13/2");
            x.noncrossing(demanded == 1);
            x.allowSize(1, false);
            Due.due("20: complement(0, 2), crossing", x.complement(0, 2), -3);
            Due.due("20: complement(0, 0), crossing", x.complement(0, 0), -3);
            Due.due("20: complement(1, 2), not admitted", x.complement(1, 2), 3);
            Due.growthIs(x, 2, "01102");
        }
    }
}
