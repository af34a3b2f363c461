/**
 * Promises 13 to 48 on each partition, and on each pair of partitions, of few elements, under
 * restrictions of each kind: the answers must be those of NaivePoset, the document word by word.
 */
final class AllPairsTest {
    private static final int RESTRICTIONS = 12;
    private static final int[] BELL = {1, 2, 5, 15, 52, 203};
    private static final int[] BASES = {-9, -2, -1, 0, 1, 2, 9};

    private final int n;
    private final int first;
    private final int second;
    private final int restriction;
    private final PartitionPoset x = new PartitionPoset();
    private final NaivePoset y = new NaivePoset();

    private AllPairsTest(int n, int first, int second, int restriction) {
        this.n = n;
        this.first = first;
        this.second = second;
        this.restriction = restriction;
        same("setSize", x.setSize(n), y.setSize(n));
        same("unrank", x.unrank(0, first), y.unrank(0, first));
        same("unrank", x.unrank(1, second), y.unrank(1, second));
        restrict();
    }

    public static void main(String[] args) {
        for (int n = 1; n <= 4; n++) {
            for (int restriction = 0; restriction < RESTRICTIONS; restriction++) {
                for (int first = 0; first < BELL[n - 1]; first++) {
                    new AllPairsTest(n, first, first, restriction).alone();
                    for (int second = 0; second < BELL[n - 1]; second++) {
                        new AllPairsTest(n, first, second, restriction).together();
                    }
                }
            }
        }
        allOfFive();
        someOfSix();
        Due.end();
    }

    private static void allOfFive() {
        for (int first = 0; first < BELL[4]; first++) {
            new AllPairsTest(5, first, first, first % RESTRICTIONS).alone();
            for (int second = 0; second < BELL[4]; second++) {
                new AllPairsTest(5, first, second, (first + second) % RESTRICTIONS).together();
            }
        }
    }

    private static void someOfSix() {
        for (int first = 0; first < BELL[5]; first++) {
            new AllPairsTest(6, first, first, first % RESTRICTIONS).alone();
        }
        for (int i = 0; i < 300; i++) {
            // Half of the pairs go from near the finest one, so that much lies between.
            int low = i % 2 == 0 ? BELL[5] - 1 - i / 2 % 7 : 37 * i % BELL[5];
            new AllPairsTest(6, low, 11 * i % BELL[5], i % RESTRICTIONS).together();
        }
    }

    private void same(String call, long got, long want) {
        Due.due(call + " of " + n + " elements, " + first + " and " + second + ", restriction "
                + restriction, got, want);
    }

    private void restrict() {
        switch (restriction) {
            case 1 -> noncrossing();
            case 2 -> allowNumber(2);
            case 3 -> allowSize(2);
            case 4 -> allowSize(1);
            case 5 -> apart(0, 2);
            case 6 -> togetherPair(1, 3);
            case 7 -> {
                noncrossing();
                allowSize(3);
            }
            case 8 -> {
                allowNumber(1);
                allowNumber(n);
            }
            case 9 -> {
                apart(0, 1);
                togetherPair(2, n - 1);
            }
            case 10 -> {
                noncrossing();
                apart(1, 2);
                allowNumber(3);
            }
            case 11 -> {
                allowNumber(3);
                allowNumber(4);
            }
            default -> { }
        }
    }

    private void noncrossing() {
        same("noncrossing", x.noncrossing(true), y.noncrossing(true));
    }

    private void allowNumber(int number) {
        same("allowNumber", x.allowNumber(number, false), y.allowNumber(number, false));
    }

    private void allowSize(int size) {
        same("allowSize", x.allowSize(size, false), y.allowSize(size, false));
    }

    private void apart(int i, int j) {
        same("apart", x.apart(i, j, true), y.apart(i, j, true));
    }

    private void togetherPair(int i, int j) {
        same("together", x.together(i, j, true), y.together(i, j, true));
    }

    /** Compares all registers, and takes the change back. */
    private void undone(String call, long got, long want) {
        same(call, got, want);
        same(call + ", then digest", x.digest(), y.digest());
        if (want >= 0) {
            same(call + ", then undo", x.undo(), y.undo());
        }
    }

    /** What takes one partition. */
    private void alone() {
        same("blocks", x.blocks(0), y.blocks(0));
        same("typeOf", x.typeOf(0), y.typeOf(0));
        same("crossings", x.crossings(0), y.crossings(0));
        same("index", x.index(0), y.index(0));
        same("why", x.why(0), y.why(0));
        same("where", x.where(0), y.where(0));
        same("covers", x.covers(0, false), y.covers(0, false));
        same("covers down", x.covers(0, true), y.covers(0, true));
        undone("complement", x.complement(0, 7), y.complement(0, 7));
        undone("rotate", x.rotate(0), y.rotate(0));
        undone("copy", x.copy(0, 6), y.copy(0, 6));
        for (int i = 0; i < n; i++) {
            same("blockOf", x.blockOf(0, i), y.blockOf(0, i));
            same("block", x.block(0, i), y.block(0, i));
            undone("isolate " + i, x.isolate(0, i), y.isolate(0, i));
            for (int j = 0; j < n; j++) {
                undone("unite " + i + j, x.unite(0, i, j), y.unite(0, i, j));
                undone("swap " + i + j, x.swap(0, i, j), y.swap(0, i, j));
            }
        }
        same("next", x.next(0), y.next(0));
        same("previous", x.previous(1), y.previous(1));
        same("digest", x.digest(), y.digest());
        same("undo", x.undo(), y.undo());
        same("undo", x.undo(), y.undo());
        same("digest", x.digest(), y.digest());
    }

    /** What takes two partitions. */
    private void together() {
        same("below", x.below(0, 1), y.below(0, 1));
        same("interval", x.interval(0, 1), y.interval(0, 1));
        same("moebius", x.moebius(0, 1), y.moebius(0, 1));
        for (int k = 0; k <= 5; k++) {
            same("chains " + k, x.chains(0, 1, k), y.chains(0, 1, k));
        }
        same("maximalChains", x.maximalChains(0, 1), y.maximalChains(0, 1));
        same("height", x.height(0, 1), y.height(0, 1));
        for (int base : BASES) {
            same("rankSum " + base, x.rankSum(0, 1, base), y.rankSum(0, 1, base));
            same("characteristic " + base, x.characteristic(0, 1, base),
                    y.characteristic(0, 1, base));
        }
        same("transfers", x.transfers(0, 1), y.transfers(0, 1));
        same("disagreements", x.disagreements(0, 1), y.disagreements(0, 1));
        same("bounds", x.bounds(0, 1, false), y.bounds(0, 1, false));
        same("bounds down", x.bounds(0, 1, true), y.bounds(0, 1, true));
        undone("bound", x.bound(0, 1, false, 2), y.bound(0, 1, false, 2));
        undone("bound down", x.bound(0, 1, true, 2), y.bound(0, 1, true, 2));
        undone("meet", x.meet(0, 1, 2), y.meet(0, 1, 2));
        undone("join", x.join(0, 1, 2), y.join(0, 1, 2));
        undone("median", x.median(3, 2), y.median(3, 2));
    }
}
