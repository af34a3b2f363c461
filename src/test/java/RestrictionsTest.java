/** Promises 1 to 7: a new object, the ground set and the restrictions. */
final class RestrictionsTest {
    private RestrictionsTest() {
    }

    public static void main(String[] args) {
        aNewObject();
        setSize();
        allowSize();
        allowNumber();
        apart();
        together();
        noncrossing();
        faultsChangeNothing();
        Due.end();
    }

    private static void aNewObject() {
        PartitionPoset x = new PartitionPoset();
        int[] due = {5, 0, 126, 126, 0, 0, 0, 0, 0};
        for (int what = 0; what < due.length; what++) {
            Due.due("1: told(" + what + ")", x.told(what), due[what]);
        }
        for (int r = 0; r < 8; r++) {
            Due.due("1: blocks(" + r + ")", x.blocks(r), -2);
        }
        Due.due("1: count()", x.count(), 52);
        Due.due("1: undo()", x.undo(), -3);
    }

    private static void setSize() {
        int[] bell = {1, 2, 5, 15, 52, 203};
        PartitionPoset x = new PartitionPoset();
        int before = 5;
        for (int n = 1; n <= 6; n++) {
            Due.due("2: setSize(" + n + ")", x.setSize(n), before);
            Due.due("2: count() of " + n, x.count(), bell[n - 1]);
            before = n;
        }
        x.finest(7);
        x.allowSize(1, false);
        x.allowNumber(2, false);
        x.apart(0, 1, true);
        x.together(1, 2, true);
        x.noncrossing(true);
        x.type(48);
        Due.due("2: setSize(6) again", x.setSize(6), 6);
        int[] due = {6, 0, 126, 126, 0, 0, 0, 1, 10};
        for (int what = 0; what < due.length; what++) {
            Due.due("2: told(" + what + ")", x.told(what), due[what]);
        }
        Due.due("2: count()", x.count(), 203);
        Due.due("2: undo()", x.undo(), 9);
        Due.due("2: told(1) after undo()", x.told(1), 1);
        Due.due("2: setSize(0)", x.setSize(0), -1);
        Due.due("2: setSize(7)", x.setSize(7), -1);
        Due.due("2: setSize(MIN)", x.setSize(Integer.MIN_VALUE), -1);
        Due.due("2: setSize(MAX)", x.setSize(Integer.MAX_VALUE), -1);
        Due.due("2: told(8) after faults", x.told(8), 9);
    }

    private static void allowSize() {
        PartitionPoset x = Due.ofSize(4);
        Due.due("3: allowSize(1, false)", x.allowSize(1, false), 1);
        // One block of four, and three pairs of pairs.
        Due.due("3: count()", x.count(), 4);
        Due.due("3: allowSize(1, false) again", x.allowSize(1, false), 0);
        Due.due("3: allowSize(2, false)", x.allowSize(2, false), 1);
        Due.due("3: count()", x.count(), 1);
        Due.due("3: told(2)", x.told(2), 120);
        Due.due("3: allowSize(1, true)", x.allowSize(1, true), 0);
        Due.due("3: allowSize(1, true) again", x.allowSize(1, true), 1);
        // All alone, all in one, and four ways with three and one.
        Due.due("3: count()", x.count(), 6);
        Due.due("3: allowSize(6, false) beyond n", x.allowSize(6, false), 1);
        Due.due("3: count()", x.count(), 6);
        Due.due("3: told(8): changes also if all is as before", x.told(8), 7);
        Due.due("3: allowSize(0, true)", x.allowSize(0, true), -1);
        Due.due("3: allowSize(7, false)", x.allowSize(7, false), -1);
        Due.due("3: allowSize(32, false)", x.allowSize(32, false), -1);
        Due.due("3: allowSize(-31, false)", x.allowSize(-31, false), -1);
    }

    private static void allowNumber() {
        PartitionPoset x = Due.ofSize(4);
        Due.due("4: allowNumber(2, false)", x.allowNumber(2, false), 1);
        Due.due("4: count()", x.count(), 8);
        Due.due("4: allowNumber(2, false) again", x.allowNumber(2, false), 0);
        Due.due("4: allowNumber(6, false) beyond n", x.allowNumber(6, false), 1);
        Due.due("4: told(3)", x.told(3), 58);
        Due.due("4: count()", x.count(), 8);
        Due.due("4: allowNumber(2, true)", x.allowNumber(2, true), 0);
        Due.due("4: count()", x.count(), 15);
        Due.due("4: allowNumber(0, true)", x.allowNumber(0, true), -1);
        Due.due("4: allowNumber(7, true)", x.allowNumber(7, true), -1);
        Due.due("4: allowNumber(33, true)", x.allowNumber(33, true), -1);
    }

    private static void apart() {
        PartitionPoset x = Due.ofSize(4);
        Due.due("5: apart(3, 1, true)", x.apart(3, 1, true), 0);
        // With 1 and 3 in one block there are as many as of three elements.
        Due.due("5: count()", x.count(), 10);
        Due.due("5: apart(1, 3, true): the order does not matter", x.apart(1, 3, true), 1);
        Due.due("5: told(4)", x.told(4), 1);
        Due.due("5: apart(0, 1, false)", x.apart(0, 1, false), 0);
        Due.due("5: told(4)", x.told(4), 1);
        Due.due("5: apart(1, 3, false)", x.apart(1, 3, false), 1);
        Due.due("5: told(4)", x.told(4), 0);
        Due.due("5: count()", x.count(), 15);
        Due.due("5: told(5)", x.told(5), 0);
        Due.due("5: apart(2, 2, true)", x.apart(2, 2, true), -1);
        Due.due("5: apart(4, 0, true)", x.apart(4, 0, true), -1);
        Due.due("5: apart(0, 4, true)", x.apart(0, 4, true), -1);
        Due.due("5: apart(-1, 0, true)", x.apart(-1, 0, true), -1);
        Due.due("5: apart(0, -1, true)", x.apart(0, -1, true), -1);
        Due.due("5: apart(9, 9, true)", x.apart(9, 9, true), -1);
    }

    private static void together() {
        PartitionPoset x = Due.ofSize(4);
        Due.due("6: together(3, 1, true)", x.together(3, 1, true), 0);
        Due.due("6: count()", x.count(), 5);
        Due.due("6: together(1, 3, true): the order does not matter", x.together(1, 3, true), 1);
        Due.due("6: told(5)", x.told(5), 1);
        Due.due("6: told(4)", x.told(4), 0);
        Due.due("6: apart(1, 3, true): both can hold", x.apart(1, 3, true), 0);
        Due.due("6: count()", x.count(), 0);
        Due.due("6: together(1, 3, false)", x.together(1, 3, false), 1);
        Due.due("6: count()", x.count(), 10);
        Due.due("6: together(0, 0, true)", x.together(0, 0, true), -1);
        Due.due("6: together(4, 0, true)", x.together(4, 0, true), -1);
        Due.due("6: together(0, 4, true)", x.together(0, 4, true), -1);
        Due.due("6: together(-1, 0, true)", x.together(-1, 0, true), -1);
    }

    private static void noncrossing() {
        int[] catalan = {1, 2, 5, 14, 42, 132};
        for (int n = 1; n <= 6; n++) {
            PartitionPoset x = Due.ofSize(n);
            Due.due("7: noncrossing(true)", x.noncrossing(true), 0);
            Due.due("7: count() of " + n, x.count(), catalan[n - 1]);
            Due.due("7: noncrossing(true) again", x.noncrossing(true), 1);
            Due.due("7: told(6)", x.told(6), 1);
            Due.due("7: noncrossing(false)", x.noncrossing(false), 1);
            Due.due("7: told(6)", x.told(6), 0);
            Due.due("7: told(8)", x.told(8), 4);
        }
    }

    private static void faultsChangeNothing() {
        PartitionPoset x = Due.ofSize(3);
        long before = x.digest();
        x.setSize(7);
        x.allowSize(0, false);
        x.allowNumber(0, false);
        x.apart(0, 3, true);
        x.together(0, 3, true);
        Due.due("2 to 6: digest() after faults", x.digest(), before);
    }
}
