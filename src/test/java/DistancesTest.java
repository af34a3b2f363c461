/** Promises 46 to 48: transfers, disagreements and median. */
final class DistancesTest {
    private DistancesTest() {
    }

    public static void main(String[] args) {
        transfers();
        disagreements();
        median();
        faults();
        Due.end();
    }

    private static void distance(int n, String one, String other, int transfers, int pairs) {
        PartitionPoset x = Due.ofSize(n);
        Due.read(x, 0, one);
        Due.read(x, 1, other);
        String what = one + " and " + other;
        Due.due("46: transfers(0, 1), " + what, x.transfers(0, 1), transfers);
        Due.due("46: transfers(1, 0), " + what, x.transfers(1, 0), transfers);
        Due.due("47: disagreements(0, 1), " + what, x.disagreements(0, 1), pairs);
        Due.due("47: disagreements(1, 0), " + what, x.disagreements(1, 0), pairs);
        Due.due("46, 47: no changes", x.told(8), 3);
    }

    private static void transfers() {
        distance(1, "0", "0", 0, 0);
        distance(6, "012345", "0/1/2/3/4/5", 5, 15);
        distance(6, "012/345", "03/14/25", 4, 9);
        distance(6, "012/345", "345/012", 0, 0);
        // The greatest share, 01 of 01/2345, is not the best one to stay for the first block.
        distance(5, "012/34", "01/234", 1, 4);
        distance(6, "0123/45", "01/2345", 2, 8);
        distance(6, "012345", "01/2345", 2, 8);
        // A block that shares nothing with its match has none that stay.
        distance(4, "0/123", "012/3", 2, 4);
        // Both blocks share most with the same one.
        distance(6, "012/345", "01345/2", 2, 8);
    }

    private static void disagreements() {
        distance(3, "0/12", "01/2", 1, 2);
        distance(3, "012", "01/2", 1, 2);
        distance(2, "01", "0/1", 1, 1);
        distance(4, "01/23", "02/13", 2, 4);
    }

    private static void median() {
        PartitionPoset x = Due.ofSize(3);
        Due.read(x, 0, "01/2");
        Due.read(x, 1, "02/1");
        Due.read(x, 2, "0/12");
        // The finest one is at a distance of 1 from each, and 012 of 2.
        Due.due("48: median(7, 3)", x.median(7, 3), 3);
        Due.growthIs(x, 3, "012");
        // 01/2, 02/1 and the finest one: 2, 2 and 2; the first of all is 001.
        Due.due("48: median(3, 4)", x.median(3, 4), 2);
        Due.growthIs(x, 4, "001");
        Due.due("48: median(4, 4)", x.median(4, 4), 0);
        Due.growthIs(x, 4, "011");
        Due.due("48: told(8)", x.told(8), 7);
        x.copy(0, 7);
        Due.due("48: median(129, 0) with register 7", x.median(129, 0), 0);
        Due.growthIs(x, 0, "001");
        x.allowNumber(2, false);
        Due.due("48: median(128, 0), only the ends", x.median(128, 0), 1);
        Due.growthIs(x, 0, "012");
        x.allowNumber(3, false);
        Due.due("48: median(128, 0), only the coarsest", x.median(128, 0), 2);
        Due.growthIs(x, 0, "000");
        x.allowNumber(1, false);
        long before = x.digest();
        Due.due("48: median(128, 0), none admitted", x.median(128, 0), -3);
        Due.due("48: median(160, 0): EMPTY before STATE", x.median(160, 0), -2);
        Due.due("48: median(160, 8): BAD before EMPTY", x.median(160, 8), -1);
        Due.due("48: median(128, -1): BAD before STATE", x.median(128, -1), -1);
        Due.due("48: median(0, 0)", x.median(0, 0), -1);
        Due.due("48: median(256, 0)", x.median(256, 0), -1);
        Due.due("48: median(-1, 0)", x.median(-1, 0), -1);
        Due.due("48: digest() after faults", x.digest(), before);
        x.setSize(6);
        for (int r = 0; r < 8; r++) {
            x.finest(r);
        }
        x.allowNumber(6, false);
        x.allowSize(2, false);
        Due.due("48: median(255, 0) of all", x.median(255, 0), 24);
        Due.growthIs(x, 0, "000123");
    }

    private static void faults() {
        PartitionPoset x = Due.ofSize(3);
        x.finest(0);
        long before = x.digest();
        for (int r : new int[] {-1, 8, 1, Integer.MIN_VALUE, Integer.MAX_VALUE}) {
            int due = r == 1 ? -2 : -1;
            Due.due("46: transfers(" + r + ", 0)", x.transfers(r, 0), due);
            Due.due("46: transfers(0, " + r + ")", x.transfers(0, r), due);
            Due.due("47: disagreements(" + r + ", 0)", x.disagreements(r, 0), due);
            Due.due("47: disagreements(0, " + r + ")", x.disagreements(0, r), due);
        }
        Due.due("46: transfers(1, 8)", x.transfers(1, 8), -1);
        Due.due("47: disagreements(1, 8)", x.disagreements(1, 8), -1);
        Due.due("46, 47: digest() after faults", x.digest(), before);
    }
}
