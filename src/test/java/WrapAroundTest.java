import java.math.BigInteger;
import java.util.ArrayList;
import java.util.List;

/**
 * Promises 24 and 51: the arithmetic that wraps around, reckoned here with numbers without a limit,
 * of which the lowest 32 or 64 bits are taken.
 */
final class WrapAroundTest {
    private static final int[] SEEDS = {0, 1, 2, 3, -1, -2, 17, 77, 65536, -65536, 19088743,
        1103515245, -1103515245, 12345, -12345, 42627, 47902, 1 << 30, -(1 << 30),
        Integer.MAX_VALUE - 1, Integer.MAX_VALUE, Integer.MIN_VALUE, Integer.MIN_VALUE + 1};

    private WrapAroundTest() {
    }

    public static void main(String[] args) {
        drawnNumbersByHand();
        for (int n = 1; n <= 6; n++) {
            draws(Due.ofSize(n));
            PartitionPoset x = Due.ofSize(n);
            x.noncrossing(true);
            x.allowNumber(2, false);
            draws(x);
        }
        drawsOfOneAndTwo();
        digests();
        digestsOfRestrictions();
        Due.end();
    }

    /** x for seed 2 is 2207042835, which is over the greatest int: 33676 * 65536 + 52499. */
    private static void drawnNumbersByHand() {
        PartitionPoset x = Due.ofSize(6);
        Due.due("24: draw(0, 0): x is 12345", x.draw(0, 0), 0);
        Due.due("24: draw(0, 1): x is 1103527590", x.draw(0, 1), 16838 % 203);
        Due.due("24: draw(0, 2): x wraps", x.draw(0, 2), (33676 - 32768) % 203);
        Due.due("24: index(0)", x.index(0), 908 % 203);
        // x is 1062535168 = 16213 * 65536, and 2424766463 = 36999 * 65536 - 1: where 12344 and
        // 12346 in place of 12345 would be seen.
        Due.due("24: draw(0, 42627)", x.draw(0, 42627), 16213 % 203);
        Due.due("24: draw(0, 47902)", x.draw(0, 47902), (36998 - 32768) % 203);
    }

    private static int drawn(int seed, int count) {
        BigInteger x = BigInteger.valueOf(seed).multiply(BigInteger.valueOf(1103515245))
                .add(BigInteger.valueOf(12345)).mod(BigInteger.ONE.shiftLeft(32));
        return x.shiftRight(16).mod(BigInteger.valueOf(32768)).intValue() % count;
    }

    private static void draws(PartitionPoset x) {
        for (int seed : SEEDS) {
            int due = drawn(seed, x.count());
            Due.due("24: draw(7, " + seed + ") of " + x.count(), x.draw(7, seed), due);
            Due.due("24: index(7) of " + x.count(), x.index(7), due);
        }
        Due.due("24: told(8)", x.told(8), 10);
    }

    private static void drawsOfOneAndTwo() {
        PartitionPoset x = Due.ofSize(2);
        for (int seed : SEEDS) {
            Due.due("24: draw(0, " + seed + ") of 2", x.draw(0, seed), drawn(seed, 2));
        }
        x.allowNumber(1, false);
        for (int seed : SEEDS) {
            Due.due("24: draw(0, " + seed + ") of 1", x.draw(0, seed), 0);
            Due.growthIs(x, 0, "01");
        }
    }

    /** The values of promise 51, and their hash without wrapping until the end. */
    private static void digestIs(PartitionPoset x, String what) {
        List<Integer> values = new ArrayList<>();
        for (int i = 0; i <= 8; i++) {
            values.add(x.told(i));
        }
        values.add(x.count());
        for (int k = 1; k <= 6; k++) {
            values.add(x.countWith(k));
        }
        for (int r = 0; r < 8; r++) {
            if (x.blocks(r) < 0) {
                values.add(-9);
                continue;
            }
            values.add(x.blocks(r));
            for (int e = 0; e < x.told(0); e++) {
                values.add(x.blockOf(r, e));
            }
            values.addAll(List.of(x.why(r), x.where(r), x.index(r)));
        }
        BigInteger h = BigInteger.valueOf(18446);
        for (int v : values) {
            h = h.multiply(BigInteger.valueOf(31)).add(BigInteger.valueOf(v));
        }
        Due.due("51: digest() " + what, x.digest(), h.longValue());
        Due.due("51: digest() again " + what, x.digest(), h.longValue());
    }

    private static void digests() {
        for (int n = 1; n <= 6; n++) {
            for (int filled = 0; filled <= 8; filled++) {
                PartitionPoset x = Due.ofSize(n);
                for (int r = 0; r < filled; r++) {
                    x.draw(r, 1000 * n + r);
                }
                digestIs(x, "of " + filled + " registers, n is " + n);
            }
        }
    }

    /** Each told() counts, and why(), where() and index() of what is not admitted. */
    private static void digestsOfRestrictions() {
        for (int which = 0; which < 8; which++) {
            PartitionPoset x = Due.ofSize(6);
            Due.read(x, 0, "024/135");
            x.finest(7);
            restrict(x, which);
            digestIs(x, "with the restriction " + which);
            x.undo();
            digestIs(x, "after undo() of the restriction " + which);
            x.type(127);
            digestIs(x, "with one more byte");
        }
        digestIs(new PartitionPoset(), "of a new object");
    }

    private static void restrict(PartitionPoset x, int which) {
        switch (which) {
            case 0 -> x.allowSize(6, false);
            case 1 -> x.allowSize(3, false);
            case 2 -> x.allowNumber(2, false);
            case 3 -> x.apart(0, 4, true);
            case 4 -> x.together(3, 4, true);
            case 5 -> x.noncrossing(true);
            case 6 -> x.setSize(1);
            default -> {
                x.apart(0, 1, true);
                x.together(0, 1, true);
            }
        }
    }
}
