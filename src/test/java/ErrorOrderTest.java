/**
 * "If several of them apply to a call, the first one in this order is returned": BAD, EMPTY, STATE,
 * FULL; and NONE, and -10 or less, only if none of them applies.
 */
final class ErrorOrderTest {
    /** The promises of the methods that can return STATE, but for undo(). */
    private static final int[] WITH_STATE = {20, 24, 36, 38, 40, 41, 42, 43, 45, 48};

    private ErrorOrderTest() {
    }

    public static void main(String[] args) {
        for (int promise : WITH_STATE) {
            stateAlone(Calls.of(promise));
        }
        for (Calls.Row row : Calls.all()) {
            emptyBeforeState(row);
            badBeforeAll(row);
        }
        badBeforeFull();
        badBeforeTheFaultOfAText();
        faultsBeforeNone();
        Due.end();
    }

    /**
     * Nothing is admitted, the registers 0 to 5 hold a crossing partition, 6 and 7 are empty: so
     * that every method that can return STATE returns it, if no other code applies.
     */
    private static PartitionPoset hopeless() {
        PartitionPoset x = Due.ofSize(4);
        for (int r = 0; r < 6; r++) {
            Due.read(x, r, "02/13");
        }
        x.apart(0, 1, true);
        x.together(0, 1, true);
        return x;
    }

    private static void stateAlone(Calls.Row row) {
        PartitionPoset x = hopeless();
        int[] arguments = row.goodArguments();
        Due.due(row.text(arguments), row.call(x, arguments), row.told(-3));
        for (int i = 0; i < arguments.length; i++) {
            if (row.kinds()[i] == Calls.Kind.WRITE) {
                arguments[i] = 7;
            }
        }
        Due.due(row.text(arguments) + " into an empty register", row.call(x, arguments),
                row.told(-3));
        Due.due(row.promise() + ": told(8)", x.told(8), 9);
    }

    private static void emptyBeforeState(Calls.Row row) {
        PartitionPoset x = hopeless();
        for (int place = 0; place < row.kinds().length; place++) {
            Calls.Kind kind = row.kinds()[place];
            if (kind == Calls.Kind.READ || kind == Calls.Kind.SET) {
                int[] arguments = row.goodArgumentsBut(place, kind == Calls.Kind.SET ? 64 + 1 : 6);
                Due.due(row.text(arguments), row.call(x, arguments), row.told(-2));
                arguments[place] = kind == Calls.Kind.SET ? 128 : 7;
                Due.due(row.text(arguments), row.call(x, arguments), row.told(-2));
            }
        }
        Due.due(row.promise() + ": told(8)", x.told(8), 9);
    }

    /** An argument out of range, while all registers that are read are filled, or all are empty. */
    private static void badBeforeAll(Calls.Row row) {
        PartitionPoset x = hopeless();
        for (int place = 0; place < row.kinds().length; place++) {
            if (row.kinds()[place].hasRange()) {
                for (int value : row.kinds()[place].outside(x)) {
                    int[] arguments = row.goodArgumentsBut(place, value);
                    Due.due(row.text(arguments), row.call(x, arguments), row.told(-1));
                    emptyAllBut(row, arguments, place);
                    Due.due(row.text(arguments), row.call(x, arguments), row.told(-1));
                }
            }
        }
        Due.due(row.promise() + ": told(8)", x.told(8), 9);
    }

    private static void emptyAllBut(Calls.Row row, int[] arguments, int place) {
        for (int i = 0; i < arguments.length; i++) {
            if (i != place && row.kinds()[i] == Calls.Kind.READ) {
                arguments[i] = 7;
            } else if (i != place && row.kinds()[i] == Calls.Kind.SET) {
                arguments[i] = 128;
            }
        }
    }

    private static void badBeforeFull() {
        PartitionPoset x = new PartitionPoset();
        Due.text(x, "01234012340123401234");
        Due.due("8: type(128), full", x.type(128), -1);
        Due.due("8: type(-1), full", x.type(-1), -1);
        Due.due("8: type(127), full", x.type(127), -4);
        Due.due("8: type(0), full", x.type(0), -4);
    }

    private static void badBeforeTheFaultOfAText() {
        PartitionPoset x = Due.ofSize(3);
        for (String text : new String[] {"", "9", "0/0", "012/", "0/12"}) {
            Due.text(x, text);
            Due.due("10: read(-1) of " + text, x.read(-1), -1);
            Due.due("10: read(8) of " + text, x.read(8), -1);
        }
    }

    /** "NONE .. is returned only if no error code applies." */
    private static void faultsBeforeNone() {
        PartitionPoset x = hopeless();
        Due.due("22: next(6), none behind: EMPTY", x.next(6), -2);
        Due.due("22: next(8), none behind: BAD", x.next(8), -1);
        Due.due("23: previous(6), none before: EMPTY", x.previous(6), -2);
        Due.due("23: previous(-1), none before: BAD", x.previous(-1), -1);
        Due.due("27: block(6, -1): EMPTY", x.block(6, -1), -2);
        Due.due("27: block(6, 4): EMPTY", x.block(6, 4), -2);
        Due.due("27: block(8, -1): BAD", x.block(8, -1), -1);
        Due.due("30: index(6): EMPTY", x.index(6), -2);
        Due.due("30: index(8): BAD", x.index(8), -1);
        Due.due("32: where(6): EMPTY", x.where(6), -2);
        Due.due("32: where(8): BAD", x.where(8), -1);
        x.coarsest(0);
        x.finest(1);
        Due.due("43: height(0, 1), not below, none admitted: STATE", x.height(0, 1), -3);
        x.apart(0, 1, false);
        x.together(0, 1, false);
        Due.due("43: height(0, 1), not below: NONE", x.height(0, 1), -9);
        x.allowNumber(4, false);
        Due.due("43: height(0, 1), not below, 1 not admitted: STATE", x.height(0, 1), -3);
        x.undo();
        x.allowNumber(1, false);
        Due.due("43: height(0, 1), not below, 0 not admitted: STATE", x.height(0, 1), -3);
        Due.due("43: height(0, 6), not admitted and empty: EMPTY", x.height(0, 6), -2);
        Due.due("43: height(6, 8), empty and out of range: BAD", x.height(6, 8), -1);
    }
}
