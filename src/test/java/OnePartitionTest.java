/** Promises 25 to 32: what is told of one partition. */
final class OnePartitionTest {
    private OnePartitionTest() {
    }

    public static void main(String[] args) {
        blocks();
        typeOf();
        crossings();
        index();
        reasonsInTheirOrder();
        placesOfReasons();
        alternately();
        faults();
        Due.end();
    }

    private static void blocks() {
        PartitionPoset x = Due.ofSize(6);
        Due.read(x, 0, "5/13/024");
        Due.due("25: blocks(0)", x.blocks(0), 3);
        int[] labels = {0, 1, 0, 1, 0, 2};
        for (int e = 0; e < 6; e++) {
            Due.due("26: blockOf(0, " + e + ")", x.blockOf(0, e), labels[e]);
        }
        Due.due("26: blockOf(0, 6)", x.blockOf(0, 6), -1);
        Due.due("26: blockOf(0, -1)", x.blockOf(0, -1), -1);
        Due.due("26: blockOf(1, 6): BAD before EMPTY", x.blockOf(1, 6), -1);
        Due.due("27: block(0, 0)", x.block(0, 0), 21);
        Due.due("27: block(0, 1)", x.block(0, 1), 10);
        Due.due("27: block(0, 2)", x.block(0, 2), 32);
        Due.due("27: block(0, 3)", x.block(0, 3), -9);
        Due.due("27: block(0, -1)", x.block(0, -1), -9);
        Due.due("27: block(0, MAX)", x.block(0, Integer.MAX_VALUE), -9);
        Due.due("27: block(1, -1): EMPTY before NONE", x.block(1, -1), -2);
        Due.due("27: block(8, -1): BAD before NONE", x.block(8, -1), -1);
        x.coarsest(0);
        Due.due("27: block(0, 0) of the coarsest", x.block(0, 0), 63);
        Due.due("27: block(0, 1) of the coarsest", x.block(0, 1), -9);
        x.finest(0);
        Due.due("25: blocks(0) of the finest", x.blocks(0), 6);
        Due.due("27: block(0, 5) of the finest", x.block(0, 5), 32);
    }

    private static void typeOf() {
        PartitionPoset x = Due.ofSize(6);
        x.coarsest(0);
        Due.due("28: typeOf(0) of the coarsest", x.typeOf(0), 32768);
        x.finest(0);
        Due.due("28: typeOf(0) of the finest", x.typeOf(0), 6);
        Due.read(x, 0, "0/12/345");
        Due.due("28: typeOf(0)", x.typeOf(0), 73);
        Due.read(x, 0, "05/14/23");
        Due.due("28: typeOf(0)", x.typeOf(0), 24);
        Due.read(x, 0, "05/1423");
        Due.due("28: typeOf(0)", x.typeOf(0), 520);
        Due.read(x, 0, "1/05423");
        Due.due("28: typeOf(0)", x.typeOf(0), 4097);
    }

    private static void crossings() {
        PartitionPoset x = Due.ofSize(6);
        crossings(x, "03/14/25", 3);
        crossings(x, "02/13/45", 1);
        crossings(x, "024/135", 1);
        crossings(x, "03/12/45", 0);
        crossings(x, "05/14/23", 0);
        crossings(x, "02/14/35", 2);
        crossings(x, "015/3/24", 0);
        crossings(x, "035/124", 1);
        crossings(x, "023/145", 1);
        crossings(x, "023/1/45", 0);
    }

    private static void crossings(PartitionPoset x, String text, int due) {
        Due.read(x, 0, text);
        Due.due("29: crossings(0) of " + text, x.crossings(0), due);
    }

    private static void index() {
        PartitionPoset x = Due.ofSize(6);
        x.coarsest(0);
        Due.due("30: index(0) of the coarsest", x.index(0), 0);
        x.finest(0);
        Due.due("30: index(0) of the finest", x.index(0), 202);
        x.allowNumber(1, false);
        Due.due("30: index(0), one less", x.index(0), 201);
        x.allowNumber(6, false);
        Due.due("30: index(0), not admitted", x.index(0), -9);
        x.undo();
        for (int k = 0; k < 202; k += 7) {
            x.unrank(1, k);
            Due.due("30: index(1)", x.index(1), k);
        }
    }

    private static void reasonsInTheirOrder() {
        PartitionPoset x = Due.ofSize(4);
        Due.read(x, 0, "02/13");
        why(x, 0, -9);
        x.noncrossing(true);
        why(x, 5, 1);
        x.together(2, 3, true);
        why(x, 4, 23);
        x.apart(1, 3, true);
        why(x, 3, 13);
        x.allowNumber(2, false);
        why(x, 2, 2);
        x.allowSize(2, false);
        why(x, 1, 0);
    }

    private static void why(PartitionPoset x, int reason, int place) {
        Due.due("31: why(0)", x.why(0), reason);
        Due.due("32: where(0)", x.where(0), place);
        Due.due("30: index(0) is NONE if there is a reason", x.index(0) == -9 ? 1 : 0,
                reason == 0 ? 0 : 1);
    }

    private static void placesOfReasons() {
        PartitionPoset x = Due.ofSize(6);
        Due.read(x, 0, "01/235/4");
        x.allowSize(1, false);
        Due.due("32: where(0), the block of 4", x.where(0), 2);
        x.allowSize(3, false);
        Due.due("32: where(0), the first of two", x.where(0), 1);
        x.setSize(6);
        Due.read(x, 0, "135/0/24");
        x.apart(5, 3, true);
        x.apart(2, 4, true);
        Due.due("32: where(0), 24 before 35", x.where(0), 24);
        x.apart(1, 5, true);
        Due.due("32: where(0), 15 before 24", x.where(0), 15);
        x.apart(3, 1, true);
        Due.due("32: where(0), 13 before 15", x.where(0), 13);
        x.apart(0, 1, true);
        Due.due("32: where(0), 01 is apart", x.where(0), 13);
        x.setSize(6);
        Due.read(x, 0, "135/0/24");
        x.together(5, 4, true);
        Due.due("32: where(0), 45", x.where(0), 45);
        x.together(3, 2, true);
        Due.due("32: where(0), 23 before 45", x.where(0), 23);
        x.together(0, 5, true);
        Due.due("32: where(0), 05 before 23", x.where(0), 5);
        x.together(1, 3, true);
        Due.due("32: where(0), 13 is together", x.where(0), 5);
        x.setSize(6);
        x.noncrossing(true);
        Due.read(x, 0, "0/13/24/5");
        Due.due("32: where(0), blocks 1 and 2", x.where(0), 12);
        Due.read(x, 0, "0/1/24/35");
        Due.due("32: where(0), blocks 2 and 3", x.where(0), 23);
        Due.read(x, 0, "04/13/25");
        Due.due("32: where(0), blocks 0 and 2 before 1 and 2", x.where(0), 2);
        Due.read(x, 0, "03/12/45");
        Due.due("31: why(0), noncrossing", x.why(0), 0);
        Due.due("32: where(0), admitted", x.where(0), -9);
    }

    /** Each method asked of one register and then of another one, in turn. */
    private static void alternately() {
        PartitionPoset x = Due.ofSize(4);
        Due.read(x, 0, "02/13");
        Due.read(x, 1, "013/2");
        x.noncrossing(true);
        x.allowSize(3, false);
        int[][] due = {{2, 0, 5, 16, 1, -9, 5, 1}, {2, 1, 11, 65, 0, -9, 1, 0}};
        for (int turn = 0; turn < 4; turn++) {
            int r = turn % 2;
            x.blockOf(1 - r, 0);
            Due.due("25: blocks(" + r + ")", x.blocks(r), due[r][0]);
            x.blockOf(1 - r, 0);
            Due.due("26: blockOf(" + r + ", 2)", x.blockOf(r, 2), due[r][1]);
            x.blockOf(1 - r, 0);
            Due.due("27: block(" + r + ", 0)", x.block(r, 0), due[r][2]);
            x.blockOf(1 - r, 0);
            Due.due("28: typeOf(" + r + ")", x.typeOf(r), due[r][3]);
            x.blockOf(1 - r, 0);
            Due.due("29: crossings(" + r + ")", x.crossings(r), due[r][4]);
            x.blockOf(1 - r, 0);
            Due.due("30: index(" + r + ")", x.index(r), due[r][5]);
            x.blockOf(1 - r, 0);
            Due.due("31: why(" + r + ")", x.why(r), due[r][6]);
            x.blockOf(1 - r, 0);
            Due.due("32: where(" + r + ")", x.where(r), due[r][7]);
        }
    }

    private static void faults() {
        PartitionPoset x = Due.ofSize(3);
        x.finest(0);
        long before = x.digest();
        for (int r : new int[] {-1, 8, 1, Integer.MIN_VALUE, Integer.MAX_VALUE}) {
            int due = r == 1 ? -2 : -1;
            Due.due("25: blocks(" + r + ")", x.blocks(r), due);
            Due.due("26: blockOf(" + r + ", 0)", x.blockOf(r, 0), due);
            Due.due("27: block(" + r + ", 0)", x.block(r, 0), due);
            Due.due("28: typeOf(" + r + ")", x.typeOf(r), due);
            Due.due("29: crossings(" + r + ")", x.crossings(r), due);
            Due.due("30: index(" + r + ")", x.index(r), due);
            Due.due("31: why(" + r + ")", x.why(r), due);
            Due.due("32: where(" + r + ")", x.where(r), due);
        }
        x.blocks(0);
        x.typeOf(0);
        x.where(0);
        Due.due("25 to 32: no changes", x.digest(), before);
    }
}
