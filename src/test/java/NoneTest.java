/**
 * NONE: "there is no such value". The seven methods that can return it, right at the edge and
 * beyond it, and that NONE is no error code: next() and previous() record a state.
 */
final class NoneTest {
    private NoneTest() {
    }

    public static void main(String[] args) {
        next();
        previous();
        block();
        index();
        where();
        height();
        digest();
        Due.end();
    }

    /** "NONE if there is none (then it stays)" */
    private static void next() {
        for (int n = 1; n <= 6; n++) {
            PartitionPoset x = Due.ofSize(n);
            int last = x.count() - 1;
            x.unrank(0, last);
            Due.due("22: next(0) of the last one", x.next(0), -9);
            Due.due("22: told(8), recorded", x.told(8), 3);
            Due.due("22: index(0) stays", x.index(0), last);
            Due.due("22: undo()", x.undo(), 2);
            Due.due("22: index(0) after undo()", x.index(0), last);
            if (last > 0) {
                x.unrank(0, last - 1);
                Due.due("22: next(0) of the last but one", x.next(0), last);
            }
        }
        PartitionPoset x = Due.ofSize(4);
        x.finest(0);
        Due.read(x, 1, "0/1/23");
        x.allowNumber(4, false);
        Due.due("22: next(0), behind all that are admitted", x.next(0), -9);
        Due.growthIs(x, 0, "0123");
        Due.due("22: next(1), the last one that is admitted", x.next(1), -9);
        Due.growthIs(x, 1, "0122");
        x.allowNumber(3, false);
        x.allowNumber(2, false);
        x.allowNumber(1, false);
        x.coarsest(2);
        Due.due("22: next(2), none admitted", x.next(2), -9);
        Due.growthIs(x, 2, "0000");
    }

    /** "NONE if there is none (then it stays)" */
    private static void previous() {
        for (int n = 1; n <= 6; n++) {
            PartitionPoset x = Due.ofSize(n);
            x.unrank(0, 0);
            Due.due("23: previous(0) of the first one", x.previous(0), -9);
            Due.due("23: told(8), recorded", x.told(8), 3);
            Due.due("23: index(0) stays", x.index(0), 0);
            Due.due("23: undo()", x.undo(), 2);
            Due.due("23: index(0) after undo()", x.index(0), 0);
            if (n > 1) {
                x.unrank(0, 1);
                Due.due("23: previous(0) of the second one", x.previous(0), 0);
            }
        }
        PartitionPoset x = Due.ofSize(4);
        x.coarsest(0);
        Due.read(x, 1, "012/3");
        x.allowNumber(1, false);
        Due.due("23: previous(0), before all that are admitted", x.previous(0), -9);
        Due.growthIs(x, 0, "0000");
        Due.due("23: previous(1), the first one that is admitted", x.previous(1), -9);
        Due.growthIs(x, 1, "0001");
        x.allowNumber(2, false);
        x.allowNumber(3, false);
        x.allowNumber(4, false);
        x.finest(2);
        Due.due("23: previous(2), none admitted", x.previous(2), -9);
        Due.growthIs(x, 2, "0123");
    }

    /** "NONE if there is no such block (also if b is negative)" */
    private static void block() {
        for (int n = 1; n <= 6; n++) {
            PartitionPoset x = Due.ofSize(n);
            x.finest(0);
            x.coarsest(1);
            for (int b = 0; b < n; b++) {
                Due.due("27: block(0, " + b + ") of " + n, x.block(0, b), 1 << b);
            }
            Due.due("27: block(1, 0) of " + n, x.block(1, 0), (1 << n) - 1);
            Due.due("27: block(0, n) of " + n, x.block(0, n), -9);
            Due.due("27: block(1, 1) of " + n, x.block(1, 1), -9);
            for (int b : new int[] {-1, -2, -32, 6, 32, Integer.MIN_VALUE, Integer.MAX_VALUE}) {
                Due.due("27: block(0, " + b + ") of " + n, x.block(0, b), -9);
                Due.due("27: block(1, " + b + ") of " + n, x.block(1, b), -9);
            }
            Due.due("27: told(8): no change", x.told(8), 3);
        }
    }

    /** "NONE if the partition is not admitted" */
    private static void index() {
        PartitionPoset x = Due.ofSize(4);
        Due.read(x, 0, "02/13");
        Due.due("30: index(0), admitted", x.index(0), 6);
        x.noncrossing(true);
        Due.due("30: index(0), crossing", x.index(0), -9);
        x.noncrossing(false);
        x.together(0, 1, true);
        Due.due("30: index(0), a together pair is not in one block", x.index(0), -9);
        x.together(0, 1, false);
        x.apart(0, 2, true);
        Due.due("30: index(0), an apart pair is in one block", x.index(0), -9);
        x.apart(0, 2, false);
        x.allowNumber(2, false);
        Due.due("30: index(0), number not allowed", x.index(0), -9);
        x.allowNumber(2, true);
        x.allowSize(2, false);
        Due.due("30: index(0), size not allowed", x.index(0), -9);
        x.allowSize(2, true);
        Due.due("30: index(0), admitted again", x.index(0), 6);
        Due.due("50: told(8)", x.told(8), 10);
    }

    /** "NONE if the partition is admitted" */
    private static void where() {
        PartitionPoset x = Due.ofSize(4);
        for (int k = 0; k < 15; k++) {
            x.unrank(0, k);
            Due.due("32: where(0), all are admitted", x.where(0), -9);
            Due.due("31: why(0), all are admitted", x.why(0), 0);
        }
        x.noncrossing(true);
        x.apart(0, 3, true);
        x.together(1, 2, true);
        for (int k = 0; k < x.count(); k++) {
            x.unrank(0, k);
            Due.due("32: where(0) of those that are left", x.where(0), -9);
            Due.due("31: why(0) of those that are left", x.why(0), 0);
        }
    }

    /** "NONE if the first partition is not below the second one" */
    private static void height() {
        PartitionPoset x = Due.ofSize(4);
        Due.read(x, 0, "01/23");
        Due.read(x, 1, "02/13");
        Due.read(x, 2, "01/2/3");
        Due.due("43: height(0, 1), neither is below the other", x.height(0, 1), -9);
        Due.due("43: height(1, 0), neither is below the other", x.height(1, 0), -9);
        Due.due("43: height(0, 2), above", x.height(0, 2), -9);
        Due.due("43: height(2, 0), below", x.height(2, 0), 1);
        Due.due("43: height(0, 0), the same", x.height(0, 0), 0);
        Due.due("43: told(8): no change", x.told(8), 4);
    }

    /** "NONE if it is empty": the last of the values, too. */
    private static void digest() {
        PartitionPoset x = new PartitionPoset();
        long empty = x.digest();
        Due.due("51: digest() of eight empty registers", empty, Due.digestByWord(x));
        x.finest(7);
        Due.due("51: digest() of seven empty registers", x.digest(), Due.digestByWord(x));
        x.undo();
        Due.due("51: digest() after undo()", x.digest(), empty);
    }
}
