/** Promises 8 to 10: type, clear and read. */
final class TextsTest {
    private TextsTest() {
    }

    public static void main(String[] args) {
        type();
        clear();
        readsPartitions();
        tellsFaults();
        readIsAChange();
        fullAndEmptyBuffers();
        eachByteAtEachPlace();
        allShortTexts();
        Due.end();
    }

    private static void type() {
        PartitionPoset x = new PartitionPoset();
        Due.due("8: type(-1)", x.type(-1), -1);
        Due.due("8: type(128)", x.type(128), -1);
        Due.due("8: type(304)", x.type(304), -1);
        Due.due("8: type(0)", x.type(0), 1);
        Due.due("8: type(127)", x.type(127), 2);
        for (int i = 3; i <= 20; i++) {
            Due.due("8: type(48)", x.type(48), i);
        }
        Due.due("8: type(48), full", x.type(48), -4);
        Due.due("8: type(-1), full", x.type(-1), -1);
        Due.due("8: told(7)", x.told(7), 20);
        Due.due("8: told(8): not a change", x.told(8), 0);
    }

    private static void clear() {
        PartitionPoset x = new PartitionPoset();
        Due.due("9: clear() of nothing", x.clear(), 0);
        x.type(48);
        x.type(49);
        Due.due("9: clear()", x.clear(), 2);
        Due.due("9: told(7)", x.told(7), 0);
        Due.due("9: told(8): not a change", x.told(8), 0);
        Due.due("9: type(50)", x.type(50), 1);
        for (int i = 2; i <= 20; i++) {
            x.type(50);
        }
        Due.due("9: clear() of all", x.clear(), 20);
        Due.due("9: type(50)", x.type(50), 1);
    }

    private static void readsPartitions() {
        PartitionPoset x = new PartitionPoset();
        reads(x, "01234", 1, "00000");
        reads(x, "43210", 1, "00000");
        reads(x, "4/3/2/1/0", 5, "01234");
        reads(x, "42/1/30", 3, "01202");
        reads(x, "31/024", 2, "01010");
        x = Due.ofSize(1);
        reads(x, "0", 1, "0");
        x = Due.ofSize(6);
        reads(x, "5/04/312", 3, "011102");
    }

    private static void reads(PartitionPoset x, String text, int blocks, String growth) {
        Due.due("10: read(7) of " + text, Due.read(x, 7, text), blocks);
        Due.growthIs(x, 7, growth);
        Due.due("10: the text stays", x.told(7), text.length());
    }

    private static void tellsFaults() {
        PartitionPoset x = Due.ofSize(3);
        fault(x, "", 0);
        fault(x, "/", 0);
        fault(x, "3", 0);
        fault(x, " 012", 0);
        fault(x, "0", 1);
        fault(x, "01", 2);
        fault(x, "00", 1);
        fault(x, "0/0", 2);
        fault(x, "011", 2);
        fault(x, "0/2/2", 4);
        fault(x, "0//12", 2);
        fault(x, "0/", 2);
        fault(x, "012/", 4);
        fault(x, "012/0", 4);
        fault(x, "0123", 3);
        fault(x, "012 ", 3);
        fault(x, "01\n2", 2);
        fault(x, "0/1/2//", 6);
        fault(x, "0/1/2/", 6);
        fault(x, "0:1", 1);
        fault(x, "0.12", 1);
        fault(x, "0/1/////////////////", 4);
        fault(Due.ofSize(1), "0/", 2);
        fault(Due.ofSize(6), "01234", 5);
        fault(Due.ofSize(5), "012345", 5);
        Due.due("10: read(-1)", x.read(-1), -1);
        Due.due("10: read(8)", x.read(8), -1);
    }

    private static void fault(PartitionPoset x, String text, int position) {
        x.coarsest(2);
        Due.text(x, text);
        long before = x.digest();
        Due.due("10: read(2) of '" + text + "'", x.read(2), -10 - position);
        Due.due("10: digest() after a fault", x.digest(), before);
        Due.due("10: read(8) comes before a fault", x.read(8), -1);
    }

    private static void readIsAChange() {
        PartitionPoset x = Due.ofSize(3);
        Due.read(x, 0, "0/12");
        Due.due("10: told(8)", x.told(8), 2);
        Due.due("10: undo()", x.undo(), 1);
        Due.due("10: blocks(0) after undo()", x.blocks(0), -2);
        Due.due("10: told(7) after undo(): the text stays", x.told(7), 4);
        Due.due("10: read(1) of the same text", x.read(1), 2);
        Due.growthIs(x, 1, "011");
    }

    /** The buffer has 20 bytes at most, of whatever sort; FULL leaves it as it is. */
    private static void fullAndEmptyBuffers() {
        PartitionPoset x = Due.ofSize(6);
        Due.due("9: clear() of a new object", x.clear(), 0);
        Due.due("10: read(0) of nothing", x.read(0), -10);
        String text = "0/1/2/3/4/5/55555555";
        for (int i = 0; i < 19; i++) {
            Due.due("8: type()", x.type(text.charAt(i)), i + 1);
        }
        Due.due("50: told(7), one is free", x.told(7), 19);
        Due.due("8: type() of the last one", x.type(text.charAt(19)), 20);
        Due.due("50: told(7), full", x.told(7), 20);
        Due.due("8: type('0'), full", x.type('0'), -4);
        Due.due("8: type(0), full", x.type(0), -4);
        Due.due("8: type(127), full", x.type(127), -4);
        Due.due("50: told(7), still full", x.told(7), 20);
        Due.due("10: read(0), full", x.read(0), -22);
        Due.due("9: clear(), full", x.clear(), 20);
        Due.due("9: clear() again", x.clear(), 0);
        Due.due("10: read(0) of nothing again", x.read(0), -10);
        Due.due("8: type('5') from the start", x.type('5'), 1);
        Due.due("10: read(0) of 5", x.read(0), -11);
        Due.due("50: told(8): none of these is recorded", x.told(8), 1);
        Due.due("10: read(0) of the longest partition", Due.read(x, 0, "5/4/3/2/1/0"), 6);
        Due.due("50: told(8): read() is", x.told(8), 2);
        Due.due("50: told(7): the text stays", x.told(7), 11);
    }

    /** All 128 bytes, as the first one, behind an element, behind a /, and behind all elements. */
    private static void eachByteAtEachPlace() {
        for (int n = 1; n <= 6; n++) {
            PartitionPoset x = Due.ofSize(n);
            for (int c = 0; c <= 127; c++) {
                x = c % 16 == 0 ? Due.ofSize(n) : x;
                boolean isElement = c >= '0' && c < '0' + n;
                boolean isMissing = isElement && c != '0';
                int one = n == 1 ? 1 : -11;
                answers(x, c, "", "", isElement ? one : -10);
                answers(x, c, "0", "", c == '/' || isMissing ? (n == 2 && isMissing ? 1 : -12)
                        : -11);
                answers(x, c, "0/", "", isMissing ? (n == 2 ? 2 : -13) : -12);
                answers(x, c, "543210".substring(6 - n), "", -10 - n - (c == '/' ? 1 : 0));
                answers(x, c, "543210".substring(6 - n), "0", -10 - n - (c == '/' ? 1 : 0));
            }
        }
    }

    private static void answers(PartitionPoset x, int c, String before, String behind, int due) {
        Due.text(x, before);
        Due.due("8: type(" + c + ")", x.type(c), before.length() + 1);
        for (int i = 0; i < behind.length(); i++) {
            x.type(behind.charAt(i));
        }
        Due.due("10: read(3) of " + before + ", byte " + c + ", " + behind, x.read(3), due);
    }

    /** All texts of up to six signs, for three elements, against NaivePoset. */
    private static void allShortTexts() {
        String signs = "012/3 ";
        for (int length = 0; length <= 6; length++) {
            int texts = 1;
            for (int i = 0; i < length; i++) {
                texts *= signs.length();
            }
            for (int number = 0; number < texts; number++) {
                PartitionPoset x = Due.ofSize(3);
                NaivePoset y = new NaivePoset();
                y.setSize(3);
                StringBuilder text = new StringBuilder();
                for (int rest = number, i = 0; i < length; i++, rest /= signs.length()) {
                    char c = signs.charAt(rest % signs.length());
                    text.append(c);
                    x.type(c);
                    y.type(c);
                }
                Due.due("10: read(0) of '" + text + "'", x.read(0), y.read(0));
                Due.due("10: blocks(0) of '" + text + "'", x.blocks(0), y.blocks(0));
            }
        }
    }
}
