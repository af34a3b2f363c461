/** Promises 11 to 24: the changes of registers. */
final class RegistersTest {
    private RegistersTest() {
    }

    public static void main(String[] args) {
        finestAndCoarsest();
        copy();
        meet();
        join();
        unite();
        isolate();
        swap();
        rotate();
        complement();
        unrank();
        nextAndPrevious();
        draw();
        wrongRegisters();
        emptyRegisters();
        Due.end();
    }

    /** A new object with n elements and these texts in the registers 0, 1, .. */
    private static PartitionPoset with(int n, String... texts) {
        PartitionPoset x = Due.ofSize(n);
        for (int r = 0; r < texts.length; r++) {
            Due.holds("a text is read: " + texts[r], Due.read(x, r, texts[r]) > 0);
        }
        return x;
    }

    private static void finestAndCoarsest() {
        for (int n = 1; n <= 6; n++) {
            PartitionPoset x = Due.ofSize(n);
            Due.due("11: finest(7)", x.finest(7), n);
            Due.growthIs(x, 7, "012345".substring(0, n));
            Due.due("12: coarsest(7)", x.coarsest(7), 1);
            Due.growthIs(x, 7, "000000".substring(0, n));
            Due.due("11, 12: undo()", x.undo(), 2);
            Due.growthIs(x, 7, "012345".substring(0, n));
            Due.due("11: undo()", x.undo(), 1);
            Due.due("11: blocks(7)", x.blocks(7), -2);
        }
    }

    private static void copy() {
        PartitionPoset x = with(5, "03/124");
        Due.due("13: copy(0, 7)", x.copy(0, 7), 2);
        Due.growthIs(x, 7, "01101");
        Due.due("13: copy(0, 0)", x.copy(0, 0), 2);
        Due.due("13: told(8): a change also onto itself", x.told(8), 4);
        x.isolate(0, 4);
        Due.growthIs(x, 7, "01101");
    }

    private static void meet() {
        PartitionPoset x = with(6, "012/345", "01/2345", "03/14/25");
        Due.due("14: meet(0, 1, 3)", x.meet(0, 1, 3), 3);
        Due.growthIs(x, 3, "001222");
        Due.due("14: meet(0, 2, 4)", x.meet(0, 2, 4), 6);
        Due.due("14: meet(1, 1, 5)", x.meet(1, 1, 5), 2);
        Due.growthIs(x, 5, "001111");
        Due.due("14: meet(0, 1, 0)", x.meet(0, 1, 0), 3);
        Due.growthIs(x, 0, "001222");
        Due.due("14: told(8)", x.told(8), 8);
    }

    private static void join() {
        PartitionPoset x = with(6, "01/2/34/5", "0/12/3/45", "05/1/2/3/4", "0/1/2/3/4/5");
        Due.due("15: join(0, 1, 4)", x.join(0, 1, 4), 2);
        Due.growthIs(x, 4, "000111");
        Due.due("15: join(4, 2, 5): through chains of blocks", x.join(4, 2, 5), 1);
        Due.due("15: join(3, 0, 6)", x.join(3, 0, 6), 4);
        Due.growthIs(x, 6, "001223");
        Due.due("15: join(1, 2, 1)", x.join(1, 2, 1), 3);
        Due.growthIs(x, 1, "011200");
        Due.due("15: told(8)", x.told(8), 9);
        Due.due("15: join(3, 3, 7) of the finest", x.join(3, 3, 7), 6);
        Due.growthIs(x, 7, "012345");
    }

    private static void unite() {
        PartitionPoset x = with(5, "03/1/24");
        Due.due("16: unite(0, 4, 3)", x.unite(0, 4, 3), 2);
        Due.growthIs(x, 0, "01000");
        Due.due("16: unite(0, 2, 2)", x.unite(0, 2, 2), 2);
        Due.due("16: unite(0, 0, 4), in one block", x.unite(0, 0, 4), 2);
        Due.growthIs(x, 0, "01000");
        x.finest(2);
        Due.due("16: unite(2, 3, 3) of the finest", x.unite(2, 3, 3), 5);
        Due.due("16: unite(2, 3, 0)", x.unite(2, 3, 0), 4);
        Due.growthIs(x, 2, "01203");
        Due.due("16: told(8)", x.told(8), 8);
        Due.due("16: unite(0, 5, 0)", x.unite(0, 5, 0), -1);
        Due.due("16: unite(0, 0, 5)", x.unite(0, 0, 5), -1);
        Due.due("16: unite(0, -1, 0)", x.unite(0, -1, 0), -1);
        Due.due("16: unite(1, 0, 5): BAD before EMPTY", x.unite(1, 0, 5), -1);
        Due.due("16: told(8) after faults", x.told(8), 8);
    }

    private static void isolate() {
        PartitionPoset x = with(5, "034/12");
        Due.due("17: isolate(0, 0)", x.isolate(0, 0), 3);
        Due.growthIs(x, 0, "01122");
        Due.due("17: isolate(0, 0) again", x.isolate(0, 0), 3);
        Due.due("17: isolate(0, 2)", x.isolate(0, 2), 4);
        Due.growthIs(x, 0, "01233");
        Due.due("17: told(8)", x.told(8), 5);
        Due.due("17: isolate(0, 5)", x.isolate(0, 5), -1);
        Due.due("17: isolate(0, -1)", x.isolate(0, -1), -1);
        Due.due("17: isolate(1, 5): BAD before EMPTY", x.isolate(1, 5), -1);
    }

    private static void swap() {
        PartitionPoset x = with(5, "034/12");
        Due.due("18: swap(0, 0, 1)", x.swap(0, 0, 1), 1);
        Due.growthIs(x, 0, "01011");
        Due.due("18: swap(0, 3, 4), in one block", x.swap(0, 3, 4), 0);
        Due.due("18: swap(0, 2, 2)", x.swap(0, 2, 2), 0);
        Due.due("18: told(8): changes all the same", x.told(8), 5);
        x = with(4, "0/1/23");
        Due.due("18: swap(0, 0, 1), both alone", x.swap(0, 0, 1), 0);
        x = with(2, "0/1");
        Due.due("18: swap(0, 2, 0)", x.swap(0, 2, 0), -1);
        Due.due("18: swap(0, 0, 2)", x.swap(0, 0, 2), -1);
        Due.due("18: swap(1, 0, 2): BAD before EMPTY", x.swap(1, 0, 2), -1);
    }

    private static void rotate() {
        PartitionPoset x = with(5, "01/2/34");
        Due.due("19: rotate(0)", x.rotate(0), 1);
        // 12/3/40
        Due.growthIs(x, 0, "01120");
        Due.due("19: rotate(0)", x.rotate(0), 1);
        Due.growthIs(x, 0, "00112");
        x.finest(1);
        Due.due("19: rotate(1) of the finest", x.rotate(1), 0);
        x = with(4, "02/13");
        Due.due("19: rotate(0) onto itself", x.rotate(0), 0);
        Due.due("19: told(8)", x.told(8), 3);
        x = with(1, "0");
        Due.due("19: rotate(0) of one element", x.rotate(0), 0);
    }

    private static void complement() {
        PartitionPoset x = with(4, "0/1/2/3", "0123", "01/23", "02/13", "02/1/3");
        Due.due("20: complement(0, 5)", x.complement(0, 5), 1);
        Due.due("20: complement(1, 5)", x.complement(1, 5), 4);
        // Only 2 to 3 is made of whole blocks, so only 1 and 3 come together.
        Due.due("20: complement(2, 5)", x.complement(2, 5), 3);
        Due.growthIs(x, 5, "0121");
        Due.due("20: complement(4, 5)", x.complement(4, 5), 2);
        Due.growthIs(x, 5, "0011");
        long before = x.digest();
        Due.due("20: complement(3, 5) of a crossing one", x.complement(3, 5), -3);
        Due.due("20: complement(3, 8): BAD before STATE", x.complement(3, 8), -1);
        Due.due("20: complement(6, 8): BAD before EMPTY", x.complement(6, 8), -1);
        Due.due("20: digest() after faults", x.digest(), before);
        Due.due("20: complement(2, 2) onto itself", x.complement(2, 2), 3);
        complementIs("0", "0");
        complementIs("0/1", "01");
        complementIs("01", "0/1");
        complementIs("0/1/2", "012");
        complementIs("01/2", "0/12");
        complementIs("0/12", "02/1");
        complementIs("02/1", "01/2");
        complementIs("012", "0/1/2");
        complementIs("014/23", "13/0/2/4");
        // A partition and its complement have n + 1 blocks in all; the complement of the
        // complement is the partition rotated the other way.
        x = Due.ofSize(6);
        x.noncrossing(true);
        for (int k = 0; k < 132; k += 11) {
            int blocks = x.unrank(0, k);
            Due.due("20: complement(0, 1)", x.complement(0, 1), 7 - blocks);
            x.complement(1, 1);
            x.rotate(1);
            Due.due("20: twice, and rotated, index(1)", x.index(1), k);
        }
    }

    private static void complementIs(String text, String due) {
        PartitionPoset x = with(text.replace("/", "").length(), text, due);
        Due.due("20: complement(0, 2) of " + text, x.complement(0, 2), x.blocks(1));
        Due.due("20: complement of " + text, Due.growth(x, 2), Due.growth(x, 1));
        Due.due("20: index(2)", x.index(2), x.index(1));
        Due.due("20: disagreements(1, 2)", x.disagreements(1, 2), 0);
    }

    private static void unrank() {
        PartitionPoset x = Due.ofSize(3);
        String[] all = {"000", "001", "010", "011", "012"};
        int[] blocks = {1, 2, 2, 2, 3};
        for (int k = 0; k < 5; k++) {
            Due.due("21: unrank(0, " + k + ")", x.unrank(0, k), blocks[k]);
            Due.growthIs(x, 0, all[k]);
        }
        Due.due("21: unrank(0, 5)", x.unrank(0, 5), -1);
        Due.due("21: unrank(0, -1)", x.unrank(0, -1), -1);
        Due.due("21: unrank(0, MAX)", x.unrank(0, Integer.MAX_VALUE), -1);
        Due.due("21: unrank(8, 0)", x.unrank(8, 0), -1);
        Due.due("21: told(8)", x.told(8), 6);
        x.together(0, 2, true);
        x.unrank(1, 1);
        Due.growthIs(x, 1, "010");
        Due.due("21: unrank(1, 2)", x.unrank(1, 2), -1);
        x.apart(0, 2, true);
        Due.due("21: unrank(1, 0) of none", x.unrank(1, 0), -1);
    }

    private static void nextAndPrevious() {
        PartitionPoset x = Due.ofSize(3);
        x.coarsest(0);
        for (int k = 1; k < 5; k++) {
            Due.due("22: next(0)", x.next(0), k);
        }
        Due.growthIs(x, 0, "012");
        Due.due("22: next(0) of the last one", x.next(0), -9);
        Due.growthIs(x, 0, "012");
        Due.due("22: told(8): NONE is a change", x.told(8), 7);
        for (int k = 3; k >= 0; k--) {
            Due.due("23: previous(0)", x.previous(0), k);
        }
        Due.due("23: previous(0) of the first one", x.previous(0), -9);
        Due.growthIs(x, 0, "000");
        Due.due("23: told(8)", x.told(8), 10);
        x.allowNumber(2, false);
        Due.due("22: next(0) over some", x.next(0), 1);
        Due.growthIs(x, 0, "012");
        Due.read(x, 1, "01/2");
        Due.due("22: next(1) of one that is not admitted", x.next(1), 1);
        Due.read(x, 1, "01/2");
        Due.due("23: previous(1) of one that is not admitted", x.previous(1), 0);
        Due.growthIs(x, 1, "000");
        x.allowNumber(1, false);
        x.allowNumber(3, false);
        Due.due("22: next(1), none admitted", x.next(1), -9);
        Due.due("23: previous(1), none admitted", x.previous(1), -9);
        Due.growthIs(x, 1, "000");
    }

    private static void draw() {
        PartitionPoset x = new PartitionPoset();
        // 12345 >>> 16 is 0; 1103527590 >>> 16 is 16838, and 16838 is 323 times 52 and 42.
        Due.due("24: draw(0, 0)", x.draw(0, 0), 0);
        Due.due("24: draw(0, 1)", x.draw(0, 1), 42);
        Due.due("24: index(0)", x.index(0), 42);
        int wrapped = 2 * 1103515245 + 12345;
        Due.due("24: draw(0, 2)", x.draw(0, 2), (wrapped >>> 16 & 32767) % 52);
        for (int seed : new int[] {-1, -77777, Integer.MIN_VALUE, Integer.MAX_VALUE}) {
            int y = (seed * 1103515245 + 12345 >>> 16 & 32767) % 52;
            Due.due("24: draw(7, " + seed + ")", x.draw(7, seed), y);
            Due.due("24: index(7)", x.index(7), y);
        }
        Due.due("24: told(8)", x.told(8), 7);
        x.apart(0, 1, true);
        x.together(0, 1, true);
        long before = x.digest();
        Due.due("24: draw(0, 1), none admitted", x.draw(0, 1), -3);
        Due.due("24: draw(8, 1): BAD before STATE", x.draw(8, 1), -1);
        Due.due("24: digest() after faults", x.digest(), before);
    }

    private static void wrongRegisters() {
        PartitionPoset x = with(3, "0/12");
        long before = x.digest();
        for (int bad : new int[] {-1, 8, Integer.MIN_VALUE, Integer.MAX_VALUE}) {
            Due.due("11: finest", x.finest(bad), -1);
            Due.due("12: coarsest", x.coarsest(bad), -1);
            Due.due("13: copy from", x.copy(bad, 0), -1);
            Due.due("13: copy to", x.copy(0, bad), -1);
            Due.due("14: meet r", x.meet(bad, 0, 0), -1);
            Due.due("14: meet s", x.meet(0, bad, 0), -1);
            Due.due("14: meet t", x.meet(0, 0, bad), -1);
            Due.due("15: join r", x.join(bad, 0, 0), -1);
            Due.due("15: join s", x.join(0, bad, 0), -1);
            Due.due("15: join t", x.join(0, 0, bad), -1);
            Due.due("16: unite", x.unite(bad, 0, 0), -1);
            Due.due("17: isolate", x.isolate(bad, 0), -1);
            Due.due("18: swap", x.swap(bad, 0, 0), -1);
            Due.due("19: rotate", x.rotate(bad), -1);
            Due.due("20: complement r", x.complement(bad, 0), -1);
            Due.due("20: complement t", x.complement(0, bad), -1);
            Due.due("21: unrank", x.unrank(bad, 0), -1);
            Due.due("22: next", x.next(bad), -1);
            Due.due("23: previous", x.previous(bad), -1);
            Due.due("24: draw", x.draw(bad, 0), -1);
            Due.due("13: copy, BAD before EMPTY", x.copy(1, bad), -1);
            Due.due("14: meet, BAD before EMPTY", x.meet(1, 0, bad), -1);
            Due.due("15: join, BAD before EMPTY", x.join(0, 1, bad), -1);
        }
        Due.due("11 to 24: digest() after faults", x.digest(), before);
    }

    private static void emptyRegisters() {
        PartitionPoset x = with(3, "0/12");
        long before = x.digest();
        Due.due("13: copy(1, 0)", x.copy(1, 0), -2);
        Due.due("14: meet(1, 0, 0)", x.meet(1, 0, 0), -2);
        Due.due("14: meet(0, 1, 0)", x.meet(0, 1, 0), -2);
        Due.due("15: join(1, 0, 0)", x.join(1, 0, 0), -2);
        Due.due("15: join(0, 1, 0)", x.join(0, 1, 0), -2);
        Due.due("16: unite(1, 0, 1)", x.unite(1, 0, 1), -2);
        Due.due("17: isolate(1, 0)", x.isolate(1, 0), -2);
        Due.due("18: swap(1, 0, 1)", x.swap(1, 0, 1), -2);
        Due.due("19: rotate(1)", x.rotate(1), -2);
        Due.due("20: complement(1, 0)", x.complement(1, 0), -2);
        Due.due("22: next(1)", x.next(1), -2);
        Due.due("23: previous(1)", x.previous(1), -2);
        Due.due("13 to 23: digest() after faults", x.digest(), before);
    }
}
