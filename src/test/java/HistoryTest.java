/** Promises 49 to 51: undo, told and digest. */
final class HistoryTest {
    private HistoryTest() {
    }

    public static void main(String[] args) {
        undo();
        tenStatesAreRemembered();
        everyChangeIsRecorded();
        undoOfRestrictions();
        told();
        digest();
        Due.end();
    }

    private static void undo() {
        PartitionPoset x = new PartitionPoset();
        Due.due("49: undo() of a new object", x.undo(), -3);
        x.finest(0);
        x.coarsest(0);
        Due.due("49: undo()", x.undo(), 1);
        Due.growthIs(x, 0, "01234");
        Due.due("49: undo()", x.undo(), 0);
        Due.due("49: blocks(0)", x.blocks(0), -2);
        Due.due("49: undo(), none left", x.undo(), -3);
        x.finest(0);
        x.setSize(2);
        Due.due("49: undo() of setSize()", x.undo(), 1);
        Due.due("49: told(0)", x.told(0), 5);
        Due.growthIs(x, 0, "01234");
        Due.due("49: count()", x.count(), 52);
    }

    private static void tenStatesAreRemembered() {
        PartitionPoset x = new PartitionPoset();
        for (int k = 0; k < 25; k++) {
            x.unrank(0, k);
            Due.due("49: told(8)", x.told(8), Math.min(k + 1, 10));
        }
        for (int k = 23; k >= 14; k--) {
            Due.due("49: undo()", x.undo(), k - 14);
            Due.due("49: index(0)", x.index(0), k);
        }
        Due.due("49: undo(), none left", x.undo(), -3);
        Due.due("49: index(0)", x.index(0), 14);
        x.unrank(0, 1);
        Due.due("49: undo() after a new change", x.undo(), 0);
        Due.due("49: index(0)", x.index(0), 14);
    }

    private static void everyChangeIsRecorded() {
        PartitionPoset x = Due.ofSize(3);
        Due.read(x, 0, "01/2");
        undone(x, "setSize", x.setSize(3));
        undone(x, "allowSize", x.allowSize(2, true));
        undone(x, "allowNumber", x.allowNumber(2, true));
        undone(x, "apart", x.apart(0, 1, false));
        undone(x, "together", x.together(0, 1, false));
        undone(x, "noncrossing", x.noncrossing(false));
        undone(x, "read", x.read(0));
        undone(x, "finest", x.finest(1));
        undone(x, "coarsest", x.coarsest(1));
        undone(x, "copy", x.copy(0, 0));
        undone(x, "meet", x.meet(0, 0, 0));
        undone(x, "join", x.join(0, 0, 0));
        undone(x, "unite", x.unite(0, 0, 1));
        undone(x, "isolate", x.isolate(0, 2));
        undone(x, "swap", x.swap(0, 0, 1));
        undone(x, "rotate", x.rotate(0));
        undone(x, "complement", x.complement(0, 0));
        undone(x, "unrank", x.unrank(0, 0));
        undone(x, "next", x.next(0));
        undone(x, "previous", x.previous(0));
        undone(x, "draw", x.draw(0, 7));
        undone(x, "bound", x.bound(0, 0, true, 0));
        undone(x, "median", x.median(1, 0));
        Due.growthIs(x, 0, "001");
        x.type(48);
        x.clear();
        x.interval(0, 0);
        x.told(0);
        x.digest();
        Due.due("49: told(8): the others are no changes", x.told(8), 2);
    }

    private static void undone(PartitionPoset x, String call, int answer) {
        Due.holds("49: " + call + " is no fault", answer >= 0);
        Due.due("49: told(8) after " + call, x.told(8), 3);
        Due.due("49: undo() of " + call, x.undo(), 2);
        Due.growthIs(x, 0, "001");
        Due.due("49: told(1) after undo() of " + call, x.told(1), 1);
        Due.due("49: count() after undo() of " + call, x.count(), 5);
    }

    private static void undoOfRestrictions() {
        PartitionPoset x = Due.ofSize(4);
        x.finest(3);
        long[] digests = new long[7];
        digests[0] = x.digest();
        x.allowSize(4, false);
        digests[1] = x.digest();
        x.allowNumber(3, false);
        digests[2] = x.digest();
        x.apart(0, 2, true);
        digests[3] = x.digest();
        x.together(0, 1, true);
        digests[4] = x.digest();
        x.noncrossing(true);
        digests[5] = x.digest();
        x.setSize(6);
        for (int i = 5; i >= 0; i--) {
            Due.due("49: undo()", x.undo(), 2 + i);
            Due.due("49, 51: digest() as before", x.digest(), digests[i]);
        }
    }

    private static void told() {
        PartitionPoset x = Due.ofSize(6);
        x.finest(7);
        x.coarsest(0);
        x.allowSize(2, false);
        x.allowSize(6, false);
        x.allowNumber(1, false);
        x.apart(0, 5, true);
        x.apart(4, 5, true);
        x.apart(1, 2, true);
        x.together(2, 3, true);
        x.together(1, 3, true);
        x.noncrossing(true);
        x.type(65);
        int[] due = {6, 2, 58, 124, 3, 2, 1, 1, 10};
        for (int what = 0; what <= 8; what++) {
            Due.due("50: told(" + what + ")", x.told(what), due[what]);
        }
        Due.due("50: told(-1)", x.told(-1), -1);
        Due.due("50: told(9)", x.told(9), -1);
        Due.due("50: told(MIN)", x.told(Integer.MIN_VALUE), -1);
        Due.due("50: told(MAX)", x.told(Integer.MAX_VALUE), -1);
    }

    private static long hash(int... values) {
        long h = 18446;
        for (int v : values) {
            h = 31 * h + v;
        }
        return h;
    }

    private static void digest() {
        PartitionPoset x = new PartitionPoset();
        Due.due("51: digest() of a new object", x.digest(),
                hash(5, 0, 126, 126, 0, 0, 0, 0, 0, 52, 1, 15, 25, 10, 1, 0,
                        -9, -9, -9, -9, -9, -9, -9, -9));
        x.setSize(3);
        x.finest(1);
        Due.read(x, 7, "02/1");
        x.together(0, 2, true);
        // 000 and 010 are admitted then.
        Due.due("51: digest()", x.digest(),
                hash(3, 2, 126, 126, 0, 1, 0, 4, 4, 2, 1, 1, 0, 0, 0, 0,
                        -9, 3, 0, 1, 2, 4, 2, -9, -9, -9, -9, -9, -9, 2, 0, 1, 0, 0, -9, 1));
        Due.due("51: digest() again", x.digest(), x.digest());
    }
}
