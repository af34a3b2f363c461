/** The sentences of the Description, one test each: the sentence stands above its test. */
final class DescriptionTest {
    private DescriptionTest() {
    }

    public static void main(String[] args) {
        codes();
        sizeOfTheGroundSet();
        numbersOfBlocks();
        growthStrings();
        lexicographicOrder();
        below();
        ranks();
        meets();
        joins();
        crossingBlocks();
        crossingPartitions();
        eightRegisters();
        restrictionsAtFirst();
        allowedSetsGoToSix();
        orderOfAPair();
        eachReasonAlone();
        smallestReason();
        registersHoldWhatIsNotAdmitted();
        indexCountsTheAdmittedBefore();
        intervals();
        chains();
        maximalChains();
        covers();
        moebius();
        changesRecordTheStateBefore();
        negativeValues();
        fiveHundredAndTwelveCalls();
        Due.end();
    }

    /** "BAD (-1) .. EMPTY (-2) .. STATE (-3) .. FULL (-4) .. NONE (-9)" */
    private static void codes() {
        Due.due("BAD", PartitionPoset.BAD, -1);
        Due.due("EMPTY", PartitionPoset.EMPTY, -2);
        Due.due("STATE", PartitionPoset.STATE, -3);
        Due.due("FULL", PartitionPoset.FULL, -4);
        Due.due("NONE", PartitionPoset.NONE, -9);
    }

    /** "n elements, 0 to n - 1, where n is 1 to 6 (5 at first)" */
    private static void sizeOfTheGroundSet() {
        PartitionPoset x = new PartitionPoset();
        Due.due("told(0) at first", x.told(0), 5);
        Due.due("finest(0) at first", x.finest(0), 5);
        Due.due("blockOf(0, 4)", x.blockOf(0, 4), 4);
        Due.due("blockOf(0, 5)", x.blockOf(0, 5), -1);
        Due.due("setSize(1)", x.setSize(1), 5);
        Due.due("finest(0) of one element", x.finest(0), 1);
        Due.due("count() of one element", x.count(), 1);
        Due.due("setSize(6)", x.setSize(6), 1);
        Due.due("finest(0) of six elements", x.finest(0), 6);
        Due.due("count() of six elements", x.count(), 203);
        Due.due("setSize(7)", x.setSize(7), -1);
        Due.due("setSize(0)", x.setSize(0), -1);
    }

    /** "The blocks are numbered from 0 in the order of their smallest elements." */
    private static void numbersOfBlocks() {
        PartitionPoset x = Due.ofSize(6);
        Due.read(x, 0, "5/43/21/0");
        int[] due = {1, 6, 24, 32, -9};
        for (int b = 0; b < 5; b++) {
            Due.due("block(0, " + b + ")", x.block(0, b), due[b]);
        }
        // The block of 5 and 1 comes before that of 2, though it was read last.
        Due.read(x, 0, "34/2/0/51");
        Due.due("block(0, 1)", x.block(0, 1), 34);
        Due.due("block(0, 2)", x.block(0, 2), 4);
        x.isolate(0, 1);
        Due.due("block(0, 1), isolated", x.block(0, 1), 2);
        Due.due("block(0, 4), 5 alone", x.block(0, 4), 32);
    }

    /** "for the elements in ascending order, of the numbers of their blocks" */
    private static void growthStrings() {
        PartitionPoset x = Due.ofSize(6);
        Due.read(x, 0, "04/153/2");
        Due.growthIs(x, 0, "012101");
        x.swap(0, 0, 2);
        Due.growthIs(x, 0, "012121");
        x.rotate(0);
        Due.growthIs(x, 0, "010202");
    }

    /** "Partitions are ordered by their growth strings lexicographically" */
    private static void lexicographicOrder() {
        String[] due = {"0000", "0001", "0010", "0011", "0012", "0100", "0101", "0102", "0110",
            "0111", "0112", "0120", "0121", "0122", "0123"};
        PartitionPoset x = Due.ofSize(4);
        x.coarsest(1);
        x.finest(2);
        for (int k = 0; k < due.length; k++) {
            x.unrank(0, k);
            Due.growthIs(x, 0, due[k]);
            Due.due("index(0) of " + due[k], x.index(0), k);
            Due.growthIs(x, 1, due[k]);
            Due.growthIs(x, 2, due[14 - k]);
            Due.due("next(1) of " + due[k], x.next(1), k < 14 ? k + 1 : -9);
            Due.due("previous(2) of " + due[14 - k], x.previous(2), k < 14 ? 13 - k : -9);
        }
        for (int n = 1; n <= 6; n++) {
            x = Due.ofSize(n);
            int some = Math.min(x.count(), 50);
            String before = "";
            for (int k = 0; k < some; k++) {
                x.unrank(0, k);
                String growth = Due.growth(x, 0);
                Due.holds(before + " is before " + growth, before.compareTo(growth) < 0);
                before = growth;
            }
        }
    }

    /** "if each block of a is a subset of a block of b; each partition is below itself" */
    private static void below() {
        PartitionPoset x = Due.ofSize(5);
        Due.read(x, 0, "03/1/24");
        Due.read(x, 1, "0324/1");
        Due.read(x, 2, "013/24");
        Due.read(x, 3, "03/14/2");
        int[][] due = {{1, 1, 1, 0}, {0, 1, 0, 0}, {0, 0, 1, 0}, {0, 0, 0, 1}};
        for (int r = 0; r < 4; r++) {
            for (int s = 0; s < 4; s++) {
                Due.due("below(" + r + ", " + s + ")", x.below(r, s), due[r][s]);
            }
        }
    }

    /** "The rank of a partition is n minus the number of its blocks." */
    private static void ranks() {
        for (int n = 1; n <= 6; n++) {
            PartitionPoset x = Due.ofSize(n);
            x.finest(0);
            x.coarsest(1);
            x.allowNumber(n, false);
            // The coarsest one alone is left, of rank n - 1.
            for (int k = 2; k < n; k++) {
                x.allowNumber(k, false);
            }
            long power = 1;
            for (int i = 1; i < n; i++) {
                power *= 7;
            }
            Due.due("rankSum(0, 1, 7) of " + n, x.rankSum(0, 1, 7), n == 1 ? 0 : power);
        }
    }

    /** "all intersections, that are not empty, of a block of the first and .. the second one" */
    private static void meets() {
        PartitionPoset x = Due.ofSize(6);
        Due.read(x, 0, "0123/45");
        Due.read(x, 1, "024/135");
        Due.due("meet(0, 1, 2)", x.meet(0, 1, 2), 4);
        Due.growthIs(x, 2, "010123");
        Due.due("meet(1, 0, 2)", x.meet(1, 0, 2), 4);
        Due.growthIs(x, 2, "010123");
        x.finest(3);
        x.coarsest(4);
        Due.due("meet(0, 3, 5)", x.meet(0, 3, 5), 6);
        Due.due("meet(0, 4, 5)", x.meet(0, 4, 5), 2);
        Due.growthIs(x, 5, "000011");
    }

    /** "the partition above both that is below all other partitions above both" */
    private static void joins() {
        PartitionPoset x = Due.ofSize(6);
        Due.read(x, 0, "02/1/35/4");
        Due.read(x, 1, "0/14/23/5");
        Due.due("join(0, 1, 2)", x.join(0, 1, 2), 2);
        Due.growthIs(x, 2, "010010");
        Due.due("join(1, 0, 2)", x.join(1, 0, 2), 2);
        Due.growthIs(x, 2, "010010");
        x.finest(3);
        x.coarsest(4);
        Due.due("join(0, 3, 5)", x.join(0, 3, 5), 4);
        Due.growthIs(x, 5, "010232");
        Due.due("join(0, 4, 5)", x.join(0, 4, 5), 1);
        // Also where the join is not admitted.
        x.noncrossing(true);
        Due.due("join(0, 1, 2)", x.join(0, 1, 2), 2);
        Due.growthIs(x, 2, "010010");
    }

    /** "i < j < k < l such that i and k are in one of them, and j and l in the other one" */
    private static void crossingBlocks() {
        String[] noncrossing = {"01/23", "03/12", "0123", "012/3", "0/13/2", "02/1/3"};
        PartitionPoset x = Due.ofSize(4);
        for (String text : noncrossing) {
            Due.read(x, 0, text);
            Due.due("crossings(0) of " + text, x.crossings(0), 0);
        }
        Due.read(x, 0, "02/13");
        Due.due("crossings(0) of 02/13", x.crossings(0), 1);
        // The same two blocks cross in more than one way, but are one pair.
        x = Due.ofSize(6);
        Due.read(x, 0, "024/135");
        Due.due("crossings(0) of 024/135", x.crossings(0), 1);
        // The second block begins before the first one's end, or goes around it.
        Due.read(x, 0, "014/235");
        Due.due("crossings(0) of 014/235", x.crossings(0), 1);
        Due.read(x, 0, "045/123");
        Due.due("crossings(0) of 045/123", x.crossings(0), 0);
        Due.read(x, 0, "025/134");
        Due.due("crossings(0) of 025/134", x.crossings(0), 1);
    }

    /** "A partition is crossing if two of its blocks cross." */
    private static void crossingPartitions() {
        int[] due = {1, 2, 5, 14, 42, 132};
        for (int n = 1; n <= 6; n++) {
            PartitionPoset x = Due.ofSize(n);
            int found = 0;
            int all = x.count();
            for (int k = 0; k < all; k++) {
                x.unrank(0, k);
                found += x.crossings(0) == 0 ? 1 : 0;
                Due.holds("complement() refuses what is crossing alone",
                        (x.crossings(0) == 0) == (x.complement(0, 1) > 0));
                // Since an object is used for 512 calls at most.
                x = k % 100 == 99 ? Due.ofSize(n) : x;
            }
            Due.due("noncrossing partitions of " + n, found, due[n - 1]);
        }
    }

    /** "There are 8 registers, 0 to 7, each of which is empty (at first) or holds a partition." */
    private static void eightRegisters() {
        PartitionPoset x = new PartitionPoset();
        for (int r = 0; r < 8; r++) {
            Due.due("blocks(" + r + ") at first", x.blocks(r), -2);
        }
        Due.due("blocks(8)", x.blocks(8), -1);
        Due.due("blocks(-1)", x.blocks(-1), -1);
        for (int r = 0; r < 8; r++) {
            x.unrank(r, 3 * r + 1);
            Due.due("told(1)", x.told(1), r + 1);
        }
        for (int r = 0; r < 8; r++) {
            Due.due("index(" + r + "), each its own", x.index(r), 3 * r + 1);
        }
    }

    /** "(at first all of these) .. (.. at first none ..) .. (at first not)" */
    private static void restrictionsAtFirst() {
        PartitionPoset x = new PartitionPoset();
        for (int k = 1; k <= 6; k++) {
            Due.due("allowSize(" + k + ", true) at first", x.allowSize(k, true), 1);
            Due.due("allowNumber(" + k + ", true) at first", x.allowNumber(k, true), 1);
        }
        for (int i = 0; i < 5; i++) {
            for (int j = 0; j < 5; j++) {
                if (i != j) {
                    Due.due("apart at first", x.apart(i, j, false), 0);
                    Due.due("together at first", x.together(i, j, false), 0);
                }
            }
        }
        Due.due("noncrossing(false) at first", x.noncrossing(false), 0);
        Due.due("count()", x.count(), 52);
    }

    /** "a set of allowed sizes and a set of allowed numbers, each a subset of 1 to 6" */
    private static void allowedSetsGoToSix() {
        // How many of the 203 partitions have no block with 1, 2, .. elements.
        int[] without = {41, 53, 113, 173, 197, 202};
        int[] stirling = {1, 31, 90, 65, 15, 1};
        for (int k = 1; k <= 6; k++) {
            PartitionPoset x = Due.ofSize(6);
            Due.due("allowSize(" + k + ", false)", x.allowSize(k, false), 1);
            Due.due("count() without size " + k, x.count(), without[k - 1]);
            Due.due("allowSize(" + k + ", true)", x.allowSize(k, true), 0);
            Due.due("count()", x.count(), 203);
            Due.due("allowNumber(" + k + ", false)", x.allowNumber(k, false), 1);
            Due.due("count() without number " + k, x.count(), 203 - stirling[k - 1]);
            Due.due("allowNumber(" + k + ", true)", x.allowNumber(k, true), 0);
            Due.due("count()", x.count(), 203);
        }
    }

    /** "the order of the elements in a pair does not matter" */
    private static void orderOfAPair() {
        for (int i = 0; i < 6; i++) {
            for (int j = 0; j < 6; j++) {
                if (i != j) {
                    PartitionPoset x = Due.ofSize(6);
                    Due.due("apart", x.apart(i, j, true), 0);
                    Due.due("apart, turned", x.apart(j, i, true), 1);
                    Due.due("told(4)", x.told(4), 1);
                    Due.due("count(), apart", x.count(), 203 - 52);
                    Due.due("apart, turned, off", x.apart(j, i, false), 1);
                    Due.due("together", x.together(i, j, true), 0);
                    Due.due("together, turned", x.together(j, i, true), 1);
                    Due.due("told(5)", x.told(5), 1);
                    Due.due("count(), together", x.count(), 52);
                    Due.due("together, turned, off", x.together(j, i, false), 1);
                    Due.due("count()", x.count(), 203);
                }
            }
        }
    }

    /** "A partition is admitted if none of the following reasons holds against it" */
    private static void eachReasonAlone() {
        PartitionPoset x = Due.ofSize(5);
        Due.read(x, 0, "024/13");
        reasonIs(x, 0, -9);
        x.allowSize(2, false);
        reasonIs(x, 1, 1);
        x.undo();
        x.allowSize(3, false);
        reasonIs(x, 1, 0);
        x.undo();
        x.allowSize(1, false);
        reasonIs(x, 0, -9);
        x.undo();
        x.allowNumber(2, false);
        reasonIs(x, 2, 2);
        x.undo();
        x.apart(4, 2, true);
        reasonIs(x, 3, 24);
        x.undo();
        x.apart(0, 1, true);
        reasonIs(x, 0, -9);
        x.undo();
        x.together(3, 0, true);
        reasonIs(x, 4, 3);
        x.undo();
        x.together(3, 1, true);
        reasonIs(x, 0, -9);
        x.undo();
        x.noncrossing(true);
        reasonIs(x, 5, 1);
        x.undo();
        reasonIs(x, 0, -9);
    }

    private static void reasonIs(PartitionPoset x, int why, int where) {
        Due.due("why(0)", x.why(0), why);
        Due.due("where(0)", x.where(0), where);
        Due.holds("admitted if there is no reason", (x.index(0) != -9) == (why == 0));
    }

    /** All 32 sets of the five reasons: "the smallest reason against it". */
    private static void smallestReason() {
        for (int set = 0; set < 32; set++) {
            PartitionPoset x = Due.ofSize(5);
            Due.read(x, 0, "024/13");
            x.allowSize(3, (set & 1) == 0);
            x.allowNumber(2, (set & 2) == 0);
            x.apart(1, 3, (set & 4) != 0);
            x.together(2, 3, (set & 8) != 0);
            x.noncrossing((set & 16) != 0);
            int[] places = {0, 2, 13, 23, 1};
            int reason = set == 0 ? 0 : Integer.numberOfTrailingZeros(set) + 1;
            reasonIs(x, reason, reason == 0 ? -9 : places[reason - 1]);
        }
    }

    /** "The registers can hold partitions that are not admitted." */
    private static void registersHoldWhatIsNotAdmitted() {
        PartitionPoset x = Due.ofSize(4);
        Due.read(x, 0, "02/13");
        x.noncrossing(true);
        Due.growthIs(x, 0, "0101");
        Due.due("copy(0, 1)", x.copy(0, 1), 2);
        Due.growthIs(x, 1, "0101");
        x.allowNumber(4, false);
        Due.due("finest(2)", x.finest(2), 4);
        x.allowSize(4, false);
        Due.due("coarsest(3)", x.coarsest(3), 1);
        Due.due("told(1)", x.told(1), 4);
    }

    /** "The index of an admitted partition is the number of admitted partitions before it." */
    private static void indexCountsTheAdmittedBefore() {
        PartitionPoset x = Due.ofSize(4);
        Due.read(x, 0, "0/13/2");
        Due.due("index(0)", x.index(0), 12);
        x.allowNumber(1, false);
        Due.due("index(0) without 0000", x.index(0), 11);
        x.noncrossing(true);
        Due.due("index(0) without 0101", x.index(0), 10);
        x.apart(1, 2, true);
        // 0001, 0110, 0111 and 0112 go, too.
        Due.due("index(0), 1 and 2 apart", x.index(0), 6);
        x.allowNumber(4, false);
        Due.due("index(0) without 0123, which is behind", x.index(0), 6);
    }

    /** "all admitted partitions that are above a and below b" */
    private static void intervals() {
        PartitionPoset x = Due.ofSize(5);
        Due.read(x, 0, "01/2/3/4");
        Due.read(x, 1, "01/2/34");
        Due.read(x, 2, "0123/4");
        Due.read(x, 3, "01234");
        int[][] due = {{1, 2, 5, 15}, {0, 1, 0, 5}, {0, 0, 1, 2}, {0, 0, 0, 1}};
        for (int r = 0; r < 4; r++) {
            for (int s = 0; s < 4; s++) {
                Due.due("interval(" + r + ", " + s + ")", x.interval(r, s), due[r][s]);
            }
        }
    }

    /** "k + 1 admitted partitions .. each but the last one strictly below the next one" */
    private static void chains() {
        PartitionPoset x = Due.ofSize(3);
        x.finest(0);
        x.coarsest(1);
        int[] due = {0, 1, 3, 0, 0, 0};
        int[] dueWithoutTwo = {0, 1, 0, 0, 0, 0};
        for (int k = 0; k <= 5; k++) {
            Due.due("chains(0, 1, " + k + ")", x.chains(0, 1, k), due[k]);
            Due.due("chains(1, 0, " + k + ")", x.chains(1, 0, k), 0);
            Due.due("chains(0, 0, " + k + ")", x.chains(0, 0, k), k == 0 ? 1 : 0);
        }
        x.allowNumber(2, false);
        for (int k = 0; k <= 5; k++) {
            Due.due("chains(0, 1, " + k + "), none between", x.chains(0, 1, k), dueWithoutTwo[k]);
        }
        x = Due.ofSize(6);
        x.finest(0);
        x.coarsest(1);
        int[] six = {0, 1, 201, 1865, 4245, 2700};
        for (int k = 0; k <= 5; k++) {
            Due.due("chains(0, 1, " + k + ") of six", x.chains(0, 1, k), six[k]);
        }
    }

    /** "if for no two neighbors in it there is an admitted partition strictly between them" */
    private static void maximalChains() {
        PartitionPoset x = Due.ofSize(4);
        x.finest(0);
        x.coarsest(1);
        Due.due("maximalChains(0, 1)", x.maximalChains(0, 1), 18);
        // 01/2/3 alone of those with three blocks, so that chains of two and three steps remain.
        x.apart(0, 2, true);
        x.apart(0, 3, true);
        x.apart(1, 2, true);
        x.apart(1, 3, true);
        Due.due("count(): 0123, 0122, 0012, 0011", x.count(), 4);
        Due.read(x, 2, "01/23");
        Due.due("maximalChains(0, 2)", x.maximalChains(0, 2), 2);
        x = Due.ofSize(4);
        x.finest(0);
        x.coarsest(1);
        x.allowNumber(3, false);
        x.together(0, 1, true);
        Due.read(x, 3, "01/2/3");
        x.allowNumber(3, true);
        x.allowSize(3, false);
        // 0000, 0011 and 0012 are left: one chain, of two steps, and none that leaves one out.
        Due.due("count()", x.count(), 3);
        Due.due("maximalChains(3, 1)", x.maximalChains(3, 1), 1);
        Due.due("chains(3, 1, 1)", x.chains(3, 1, 1), 1);
        Due.due("height(3, 1)", x.height(3, 1), 2);
    }

    /** "if the other one is strictly below it and none is strictly between them" */
    private static void covers() {
        PartitionPoset x = Due.ofSize(4);
        x.finest(0);
        x.coarsest(1);
        x.noncrossing(true);
        Due.due("covers(1, true)", x.covers(1, true), 6);
        Due.due("covers(0, false)", x.covers(0, false), 6);
        x.allowSize(2, false);
        // 012/3, 013/2, 023/1 and 0/123 are right above the finest one.
        Due.due("covers(0, false)", x.covers(0, false), 4);
        x.allowSize(1, false);
        Due.due("covers(1, true), nothing else admitted", x.covers(1, true), 0);
        Due.due("covers(1, false), nothing else admitted", x.covers(1, false), 0);
    }

    /** "1 if they are equal, 0 if a is not below b, and otherwise the negative of the sum" */
    private static void moebius() {
        PartitionPoset x = Due.ofSize(5);
        x.finest(0);
        x.coarsest(1);
        Due.read(x, 2, "012/34");
        Due.read(x, 3, "01/2/34");
        Due.due("moebius(0, 0)", x.moebius(0, 0), 1);
        Due.due("moebius(1, 1)", x.moebius(1, 1), 1);
        Due.due("moebius(1, 0)", x.moebius(1, 0), 0);
        Due.due("moebius(2, 3)", x.moebius(2, 3), 0);
        Due.due("moebius(0, 3)", x.moebius(0, 3), 1);
        Due.due("moebius(0, 2)", x.moebius(0, 2), -2);
        Due.due("moebius(3, 2)", x.moebius(3, 2), -1);
        Due.due("moebius(3, 1)", x.moebius(3, 1), 2);
        Due.due("moebius(0, 1)", x.moebius(0, 1), 24);
        x.allowNumber(4, false);
        x.allowNumber(3, false);
        x.allowNumber(2, false);
        Due.due("moebius(0, 1), none between", x.moebius(0, 1), -1);
    }

    /** "Each change records the state (n, registers, restrictions) before it." */
    private static void changesRecordTheStateBefore() {
        PartitionPoset x = new PartitionPoset();
        x.setSize(2);
        x.finest(3);
        x.apart(0, 1, true);
        x.coarsest(3);
        Due.due("undo()", x.undo(), 3);
        Due.growthIs(x, 3, "01");
        Due.due("told(4)", x.told(4), 1);
        Due.due("undo()", x.undo(), 2);
        Due.due("told(4)", x.told(4), 0);
        Due.growthIs(x, 3, "01");
        Due.due("undo()", x.undo(), 1);
        Due.due("blocks(3)", x.blocks(3), -2);
        Due.due("told(0)", x.told(0), 2);
        Due.due("undo()", x.undo(), 0);
        Due.due("told(0)", x.told(0), 5);
        Due.due("undo()", x.undo(), -3);
    }

    /** "Methods whose values can be negative say how errors are told." */
    private static void negativeValues() {
        PartitionPoset x = Due.ofSize(2);
        x.finest(0);
        x.coarsest(1);
        Due.due("moebius(0, 1) of two elements", x.moebius(0, 1), -1);
        for (int b = -9; b <= 9; b++) {
            Due.due("rankSum(0, 1, " + b + ")", x.rankSum(0, 1, b), 1 + b);
            Due.due("characteristic(0, 1, " + b + ")", x.characteristic(0, 1, b), b - 1);
        }
        Due.due("moebius(0, 2)", x.moebius(0, 2), -1000000002);
        Due.due("moebius(0, 8)", x.moebius(0, 8), -1000000001);
        Due.due("rankSum(0, 2, 0)", x.rankSum(0, 2, 0), -1000000002);
        Due.due("rankSum(0, 1, 10)", x.rankSum(0, 1, 10), -1000000001);
        Due.due("characteristic(0, 2, 0)", x.characteristic(0, 2, 0), -1000000002);
        Due.due("characteristic(0, 1, -10)", x.characteristic(0, 1, -10), -1000000001);
        x.allowNumber(2, false);
        Due.due("moebius(0, 1)", x.moebius(0, 1), -1000000003);
        Due.due("characteristic(0, 1, 0)", x.characteristic(0, 1, 0), -1000000003);
    }

    /** "An object is used for at most 512 calls after it has been made" */
    private static void fiveHundredAndTwelveCalls() {
        PartitionPoset x = new PartitionPoset();
        for (int call = 1; call < 512; call++) {
            Due.due("call " + call + ": unrank", x.unrank(call % 8, call % 52) > 0 ? 1 : 0, 1);
        }
        Due.due("call 512: index(7), of the last call", x.index(7), 511 % 52);
    }
}
