/** Promises 33 to 38: the admitted partitions and their bounds. */
final class AdmittedTest {
    private AdmittedTest() {
    }

    public static void main(String[] args) {
        counts();
        below();
        covers();
        bounds();
        bound();
        faults();
        Due.end();
    }

    private static void counts() {
        PartitionPoset x = Due.ofSize(6);
        int[] stirling = {1, 31, 90, 65, 15, 1};
        for (int k = 1; k <= 6; k++) {
            Due.due("34: countWith(" + k + ")", x.countWith(k), stirling[k - 1]);
        }
        Due.due("33: count()", x.count(), 203);
        x.noncrossing(true);
        int[] narayana = {1, 15, 50, 50, 15, 1};
        for (int k = 1; k <= 6; k++) {
            Due.due("34: countWith(" + k + "), noncrossing", x.countWith(k), narayana[k - 1]);
        }
        Due.due("33: count()", x.count(), 132);
        x.allowNumber(3, false);
        Due.due("34: countWith(3), forbidden", x.countWith(3), 0);
        Due.due("33: count()", x.count(), 82);
        x.undo();
        Due.due("33: count() after undo()", x.count(), 132);
        x.setSize(2);
        Due.due("34: countWith(3) beyond n", x.countWith(3), 0);
        Due.due("34: countWith(6) beyond n", x.countWith(6), 0);
        Due.due("34: countWith(0)", x.countWith(0), -1);
        Due.due("34: countWith(7)", x.countWith(7), -1);
        Due.due("34: countWith(MIN)", x.countWith(Integer.MIN_VALUE), -1);
        x.allowSize(1, false);
        x.allowSize(2, false);
        Due.due("33: count() of none", x.count(), 0);
    }

    private static void below() {
        PartitionPoset x = Due.ofSize(4);
        Due.read(x, 0, "01/2/3");
        Due.read(x, 1, "01/23");
        Due.read(x, 2, "02/13");
        Due.due("35: below(0, 1)", x.below(0, 1), 1);
        Due.due("35: below(1, 0)", x.below(1, 0), 0);
        Due.due("35: below(0, 0)", x.below(0, 0), 1);
        Due.due("35: below(1, 2)", x.below(1, 2), 0);
        x.noncrossing(true);
        Due.due("35: below(2, 2), not admitted", x.below(2, 2), 1);
    }

    private static void covers() {
        PartitionPoset x = Due.ofSize(4);
        x.finest(0);
        x.coarsest(1);
        Due.read(x, 2, "01/23");
        Due.due("36: covers(0, false)", x.covers(0, false), 6);
        Due.due("36: covers(0, true)", x.covers(0, true), 0);
        Due.due("36: covers(1, true)", x.covers(1, true), 7);
        Due.due("36: covers(1, false)", x.covers(1, false), 0);
        Due.due("36: covers(2, true)", x.covers(2, true), 2);
        Due.due("36: covers(2, false)", x.covers(2, false), 1);
        x.allowNumber(3, false);
        // All seven with two blocks are right above the finest one then.
        Due.due("36: covers(0, false)", x.covers(0, false), 7);
        x.allowSize(3, false);
        Due.due("36: covers(0, false)", x.covers(0, false), 3);
        x.allowNumber(2, false);
        Due.due("36: covers(0, false)", x.covers(0, false), 1);
        Due.due("36: covers(2, false), not admitted", x.covers(2, false), -3);
        Due.due("36: covers(2, true), not admitted", x.covers(2, true), -3);
    }

    private static void bounds() {
        PartitionPoset x = Due.ofSize(4);
        Due.read(x, 0, "01/2/3");
        Due.read(x, 1, "0/12/3");
        Due.read(x, 2, "03/12");
        Due.read(x, 3, "01/23");
        Due.due("37: bounds(0, 1, false)", x.bounds(0, 1, false), 1);
        Due.due("37: bounds(0, 1, true)", x.bounds(0, 1, true), 1);
        Due.due("37: bounds(0, 3, true), one below the other", x.bounds(0, 3, true), 1);
        x.allowSize(3, false);
        // 012/3 is forbidden, so that 0123 is the nearest one.
        Due.due("37: bounds(0, 1, false)", x.bounds(0, 1, false), 1);
        x.allowSize(4, false);
        Due.due("37: bounds(0, 1, false)", x.bounds(0, 1, false), 0);
        x.setSize(4);
        x.finest(0);
        Due.read(x, 1, "01/2/3");
        x.allowNumber(4, false);
        x.allowNumber(3, false);
        // 01/23, 012/3 and 013/2 are above both, which are not admitted.
        Due.due("37: bounds(0, 1, false)", x.bounds(0, 1, false), 3);
        Due.due("37: bounds(0, 1, true)", x.bounds(0, 1, true), 0);
        x.coarsest(2);
        x.coarsest(3);
        Due.due("37: bounds(2, 3, true), itself", x.bounds(2, 3, true), 1);
        x.allowNumber(1, false);
        Due.due("37: bounds(2, 3, true), all with two blocks", x.bounds(2, 3, true), 7);
        Due.due("37: bounds(2, 3, false)", x.bounds(2, 3, false), 0);
    }

    private static void bound() {
        PartitionPoset x = Due.ofSize(4);
        Due.read(x, 0, "01/2/3");
        Due.read(x, 1, "0/12/3");
        Due.due("38: bound(0, 1, false, 2)", x.bound(0, 1, false, 2), 1);
        Due.growthIs(x, 2, "0001");
        Due.due("38: bound(0, 1, true, 3)", x.bound(0, 1, true, 3), 14);
        Due.growthIs(x, 3, "0123");
        Due.due("38: told(8)", x.told(8), 5);
        x.allowSize(3, false);
        Due.due("38: bound(0, 1, false, 0) onto one of them", x.bound(0, 1, false, 0), 0);
        Due.growthIs(x, 0, "0000");
        x.undo();
        x.allowSize(4, false);
        Due.due("38: bound(0, 1, false, 2) of none", x.bound(0, 1, false, 2), -3);
        x.setSize(4);
        x.finest(0);
        x.allowNumber(4, false);
        long before = x.digest();
        Due.due("38: bound(0, 0, false, 2) of six", x.bound(0, 0, false, 2), -3);
        Due.due("38: bound(0, 0, false, 8): BAD before STATE", x.bound(0, 0, false, 8), -1);
        Due.due("38: bound(1, 0, false, 2): EMPTY before STATE", x.bound(1, 0, false, 2), -2);
        Due.due("38: digest() after faults", x.digest(), before);
    }

    private static void faults() {
        PartitionPoset x = Due.ofSize(3);
        x.finest(0);
        long before = x.digest();
        for (int r : new int[] {-1, 8, 1, Integer.MIN_VALUE, Integer.MAX_VALUE}) {
            int due = r == 1 ? -2 : -1;
            Due.due("35: below(" + r + ", 0)", x.below(r, 0), due);
            Due.due("35: below(0, " + r + ")", x.below(0, r), due);
            Due.due("36: covers(" + r + ", true)", x.covers(r, true), due);
            Due.due("37: bounds(" + r + ", 0, true)", x.bounds(r, 0, true), due);
            Due.due("37: bounds(0, " + r + ", false)", x.bounds(0, r, false), due);
            Due.due("38: bound(" + r + ", 0, true, 0)", x.bound(r, 0, true, 0), due);
            Due.due("38: bound(0, " + r + ", false, 0)", x.bound(0, r, false, 0), due);
            Due.due("38: bound(1, 8, false, 0)", x.bound(1, 8, false, 0), -1);
        }
        Due.due("38: bound(1, 1, true, 8)", x.bound(1, 1, true, 8), -1);
        Due.due("35 to 38: digest() after faults", x.digest(), before);
    }
}
