/** Promises 8 to 10: type, clear and read. */
final class TextsTest {
    private TextsTest() {
    }

    public static void main(String[] args) {
        type();
        clear();
        readsPartitions();
        tellsFaults();
        readIsAChange();
        Due.end();
    }

    private static void type() {
        PartitionPoset x = new PartitionPoset();
        Due.due("8: type(-1)", x.type(-1), -1);
        Due.due("8: type(128)", x.type(128), -1);
        Due.due("8: type(304)", x.type(304), -1);
        Due.due("8: type(0)", x.type(0), 1);
        Due.due("8: type(127)", x.type(127), 2);
        for (int i = 3; i <= 20; i++) {
            Due.due("8: type(48)", x.type(48), i);
        }
        Due.due("8: type(48), full", x.type(48), -4);
        Due.due("8: type(-1), full", x.type(-1), -1);
        Due.due("8: told(7)", x.told(7), 20);
        Due.due("8: told(8): not a change", x.told(8), 0);
    }

    private static void clear() {
        PartitionPoset x = new PartitionPoset();
        Due.due("9: clear() of nothing", x.clear(), 0);
        x.type(48);
        x.type(49);
        Due.due("9: clear()", x.clear(), 2);
        Due.due("9: told(7)", x.told(7), 0);
        Due.due("9: told(8): not a change", x.told(8), 0);
        Due.due("9: type(50)", x.type(50), 1);
        for (int i = 2; i <= 20; i++) {
            x.type(50);
        }
        Due.due("9: clear() of all", x.clear(), 20);
        Due.due("9: type(50)", x.type(50), 1);
    }

    private static void readsPartitions() {
        PartitionPoset x = new PartitionPoset();
        reads(x, "01234", 1, "00000");
        reads(x, "43210", 1, "00000");
        reads(x, "4/3/2/1/0", 5, "01234");
        reads(x, "42/1/30", 3, "01202");
        reads(x, "31/024", 2, "01010");
        x = Due.ofSize(1);
        reads(x, "0", 1, "0");
        x = Due.ofSize(6);
        reads(x, "5/04/312", 3, "011102");
    }

    private static void reads(PartitionPoset x, String text, int blocks, String growth) {
        Due.due("10: read(7) of " + text, Due.read(x, 7, text), blocks);
        Due.growthIs(x, 7, growth);
        Due.due("10: the text stays", x.told(7), text.length());
    }

    private static void tellsFaults() {
        PartitionPoset x = Due.ofSize(3);
        fault(x, "", 0);
        fault(x, "/", 0);
        fault(x, "3", 0);
        fault(x, " 012", 0);
        fault(x, "0", 1);
        fault(x, "01", 2);
        fault(x, "00", 1);
        fault(x, "0/0", 2);
        fault(x, "011", 2);
        fault(x, "0/2/2", 4);
        fault(x, "0//12", 2);
        fault(x, "0/", 2);
        fault(x, "012/", 4);
        fault(x, "012/0", 4);
        fault(x, "0123", 3);
        fault(x, "012 ", 3);
        fault(x, "01\n2", 2);
        fault(x, "0/1/2//", 6);
        fault(x, "0/1/2/", 6);
        fault(x, "0:1", 1);
        fault(x, "0.12", 1);
        fault(x, "0/1/////////////////", 4);
        fault(Due.ofSize(1), "0/", 2);
        fault(Due.ofSize(6), "01234", 5);
        fault(Due.ofSize(5), "012345", 5);
        Due.due("10: read(-1)", x.read(-1), -1);
        Due.due("10: read(8)", x.read(8), -1);
    }

    private static void fault(PartitionPoset x, String text, int position) {
        x.coarsest(2);
        Due.text(x, text);
        long before = x.digest();
        Due.due("10: read(2) of '" + text + "'", x.read(2), -10 - position);
        Due.due("10: digest() after a fault", x.digest(), before);
        Due.due("10: read(8) comes before a fault", x.read(8), -1);
    }

    private static void readIsAChange() {
        PartitionPoset x = Due.ofSize(3);
        Due.read(x, 0, "0/12");
        Due.due("10: told(8)", x.told(8), 2);
        Due.due("10: undo()", x.undo(), 1);
        Due.due("10: blocks(0) after undo()", x.blocks(0), -2);
        Due.due("10: told(7) after undo(): the text stays", x.told(7), 4);
        Due.due("10: read(1) of the same text", x.read(1), 2);
        Due.growthIs(x, 1, "011");
    }
}
