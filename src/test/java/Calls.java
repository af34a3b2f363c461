import java.util.Arrays;
import java.util.List;

/** All methods of the document's face, a row each, so that a test can go through every one. */
final class Calls {
    /** What moebius(), rankSum() and characteristic() add to an error code. */
    static final long LONG_FAULT = -1000000000L;

    private Calls() {
    }

    /** What an argument is, and the range that the document names for it. */
    enum Kind {
        /** A register that is read, and by some methods written, too. */
        READ(0, 7),
        /** A register that is only written. */
        WRITE(0, 7),
        /** A set of registers that are read. */
        SET(1, 255),
        ELEMENT(0, 5),
        ONE_TO_SIX(1, 6),
        BYTE(0, 127),
        INDEX(0, 202),
        STEPS(0, 5),
        BASE(-9, 9),
        WHAT(0, 8),
        /** A number without a range. */
        ANY(Integer.MIN_VALUE, Integer.MAX_VALUE),
        /** A truth value: 0 or 1. */
        FLAG(0, 1);

        private final int low;
        private final int high;

        Kind(int low, int high) {
            this.low = low;
            this.high = high;
        }

        boolean hasRange() {
            return this != ANY && this != FLAG;
        }

        int low() {
            return low;
        }

        /** The upper end of the range, as x is. */
        int high(PartitionPoset x) {
            return this == ELEMENT ? x.told(0) - 1 : this == INDEX ? x.count() - 1 : high;
        }

        /** Numbers outside the range, those next to its ends and those far away among them. */
        int[] outside(PartitionPoset x) {
            int above = high(x);
            return new int[] {low - 1, above + 1, low - 2, above + 2, low - 32, above + 32,
                low - 256, above + 256, Integer.MIN_VALUE, Integer.MAX_VALUE};
        }
    }

    /** A method, called with arguments that are numbers (0 for false). */
    interface Method {
        long call(PartitionPoset x, int[] arguments);
    }

    /** A method with the number of its promise. */
    record Row(int promise, String name, boolean isChange, Method method, Kind... kinds) {
        long call(PartitionPoset x, int... arguments) {
            return method.call(x, arguments);
        }

        /** How this method tells an error code. */
        long told(int code) {
            boolean isLong = promise == 40 || promise == 44 || promise == 45;
            return isLong ? LONG_FAULT + code : code;
        }

        boolean isFault(long answer) {
            return answer == told(-1) || answer == told(-2) || answer == told(-3)
                    || answer == told(-4) || promise == 10 && answer <= -10;
        }

        String text(int... arguments) {
            String list = Arrays.toString(arguments);
            return promise + ": " + name + "(" + list.substring(1, list.length() - 1) + ")";
        }

        /** Arguments in range: the registers 0, 1 are read, 2 is written; the elements 0, 1. */
        int[] goodArguments() {
            int[] good = new int[kinds.length];
            int reads = 0;
            int elements = 0;
            for (int i = 0; i < good.length; i++) {
                switch (kinds[i]) {
                    case READ -> good[i] = reads++;
                    case ELEMENT -> good[i] = elements++;
                    case WRITE -> good[i] = 2;
                    case SET -> good[i] = 3;
                    case BYTE -> good[i] = '0';
                    case ANY, INDEX -> good[i] = 0;
                    default -> good[i] = 1;
                }
            }
            return good;
        }

        int[] goodArgumentsBut(int place, int value) {
            int[] arguments = goodArguments();
            arguments[place] = value;
            return arguments;
        }

        boolean has(Kind kind) {
            return Arrays.asList(kinds).contains(kind);
        }
    }

    private static Row change(int promise, String name, Method method, Kind... kinds) {
        return new Row(promise, name, true, method, kinds);
    }

    private static Row look(int promise, String name, Method method, Kind... kinds) {
        return new Row(promise, name, false, method, kinds);
    }

    private static final List<Row> ROWS = List.of(
        change(2, "setSize", (x, a) -> x.setSize(a[0]), Kind.ONE_TO_SIX),
        change(3, "allowSize", (x, a) -> x.allowSize(a[0], a[1] != 0), Kind.ONE_TO_SIX, Kind.FLAG),
        change(4, "allowNumber", (x, a) -> x.allowNumber(a[0], a[1] != 0),
                Kind.ONE_TO_SIX, Kind.FLAG),
        change(5, "apart", (x, a) -> x.apart(a[0], a[1], a[2] != 0),
                Kind.ELEMENT, Kind.ELEMENT, Kind.FLAG),
        change(6, "together", (x, a) -> x.together(a[0], a[1], a[2] != 0),
                Kind.ELEMENT, Kind.ELEMENT, Kind.FLAG),
        change(7, "noncrossing", (x, a) -> x.noncrossing(a[0] != 0), Kind.FLAG),
        look(8, "type", (x, a) -> x.type(a[0]), Kind.BYTE),
        look(9, "clear", (x, a) -> x.clear()),
        change(10, "read", (x, a) -> x.read(a[0]), Kind.WRITE),
        change(11, "finest", (x, a) -> x.finest(a[0]), Kind.WRITE),
        change(12, "coarsest", (x, a) -> x.coarsest(a[0]), Kind.WRITE),
        change(13, "copy", (x, a) -> x.copy(a[0], a[1]), Kind.READ, Kind.WRITE),
        change(14, "meet", (x, a) -> x.meet(a[0], a[1], a[2]), Kind.READ, Kind.READ, Kind.WRITE),
        change(15, "join", (x, a) -> x.join(a[0], a[1], a[2]), Kind.READ, Kind.READ, Kind.WRITE),
        change(16, "unite", (x, a) -> x.unite(a[0], a[1], a[2]),
                Kind.READ, Kind.ELEMENT, Kind.ELEMENT),
        change(17, "isolate", (x, a) -> x.isolate(a[0], a[1]), Kind.READ, Kind.ELEMENT),
        change(18, "swap", (x, a) -> x.swap(a[0], a[1], a[2]),
                Kind.READ, Kind.ELEMENT, Kind.ELEMENT),
        change(19, "rotate", (x, a) -> x.rotate(a[0]), Kind.READ),
        change(20, "complement", (x, a) -> x.complement(a[0], a[1]), Kind.READ, Kind.WRITE),
        change(21, "unrank", (x, a) -> x.unrank(a[0], a[1]), Kind.WRITE, Kind.INDEX),
        change(22, "next", (x, a) -> x.next(a[0]), Kind.READ),
        change(23, "previous", (x, a) -> x.previous(a[0]), Kind.READ),
        change(24, "draw", (x, a) -> x.draw(a[0], a[1]), Kind.WRITE, Kind.ANY),
        look(25, "blocks", (x, a) -> x.blocks(a[0]), Kind.READ),
        look(26, "blockOf", (x, a) -> x.blockOf(a[0], a[1]), Kind.READ, Kind.ELEMENT),
        look(27, "block", (x, a) -> x.block(a[0], a[1]), Kind.READ, Kind.ANY),
        look(28, "typeOf", (x, a) -> x.typeOf(a[0]), Kind.READ),
        look(29, "crossings", (x, a) -> x.crossings(a[0]), Kind.READ),
        look(30, "index", (x, a) -> x.index(a[0]), Kind.READ),
        look(31, "why", (x, a) -> x.why(a[0]), Kind.READ),
        look(32, "where", (x, a) -> x.where(a[0]), Kind.READ),
        look(33, "count", (x, a) -> x.count()),
        look(34, "countWith", (x, a) -> x.countWith(a[0]), Kind.ONE_TO_SIX),
        look(35, "below", (x, a) -> x.below(a[0], a[1]), Kind.READ, Kind.READ),
        look(36, "covers", (x, a) -> x.covers(a[0], a[1] != 0), Kind.READ, Kind.FLAG),
        look(37, "bounds", (x, a) -> x.bounds(a[0], a[1], a[2] != 0),
                Kind.READ, Kind.READ, Kind.FLAG),
        change(38, "bound", (x, a) -> x.bound(a[0], a[1], a[2] != 0, a[3]),
                Kind.READ, Kind.READ, Kind.FLAG, Kind.WRITE),
        look(39, "interval", (x, a) -> x.interval(a[0], a[1]), Kind.READ, Kind.READ),
        look(40, "moebius", (x, a) -> x.moebius(a[0], a[1]), Kind.READ, Kind.READ),
        look(41, "chains", (x, a) -> x.chains(a[0], a[1], a[2]),
                Kind.READ, Kind.READ, Kind.STEPS),
        look(42, "maximalChains", (x, a) -> x.maximalChains(a[0], a[1]), Kind.READ, Kind.READ),
        look(43, "height", (x, a) -> x.height(a[0], a[1]), Kind.READ, Kind.READ),
        look(44, "rankSum", (x, a) -> x.rankSum(a[0], a[1], a[2]),
                Kind.READ, Kind.READ, Kind.BASE),
        look(45, "characteristic", (x, a) -> x.characteristic(a[0], a[1], a[2]),
                Kind.READ, Kind.READ, Kind.BASE),
        look(46, "transfers", (x, a) -> x.transfers(a[0], a[1]), Kind.READ, Kind.READ),
        look(47, "disagreements", (x, a) -> x.disagreements(a[0], a[1]), Kind.READ, Kind.READ),
        change(48, "median", (x, a) -> x.median(a[0], a[1]), Kind.SET, Kind.WRITE),
        look(49, "undo", (x, a) -> x.undo()),
        look(50, "told", (x, a) -> x.told(a[0]), Kind.WHAT),
        look(51, "digest", (x, a) -> x.digest()));

    /** The rows of the promises 2 to 51. */
    static List<Row> all() {
        return ROWS;
    }

    /** The row of a promise. */
    static Row of(int promise) {
        return ROWS.get(promise - 2);
    }
}
