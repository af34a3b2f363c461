/**
 * Promises 13 to 51, "EMPTY: a register that is read is empty": each method that reads registers,
 * with each of the registers 0 to 7 empty in turn.
 */
final class EmptyRegistersTest {
    private EmptyRegistersTest() {
    }

    public static void main(String[] args) {
        for (int empty = 0; empty < 8; empty++) {
            for (Calls.Row row : Calls.all()) {
                readEmpty(row, empty);
                writtenEmpty(row, empty);
            }
            medianOfEmpty(empty);
            toldOfEmpty(empty);
        }
        allAreEmpty();
        emptyAgain();
        Due.end();
    }

    /** Three elements, and in all registers but one a partition. */
    private static PartitionPoset allBut(int empty) {
        PartitionPoset x = Due.ofSize(3);
        for (int r = 0; r < 8; r++) {
            if (r != empty) {
                x.coarsest(r);
            }
        }
        return x;
    }

    private static void readEmpty(Calls.Row row, int empty) {
        for (int place = 0; place < row.kinds().length; place++) {
            if (row.kinds()[place] == Calls.Kind.READ) {
                PartitionPoset x = allBut(empty);
                int[] arguments = new int[row.kinds().length];
                fill(row, arguments, (empty + 3) % 8);
                arguments[place] = empty;
                Due.due(row.text(arguments), row.call(x, arguments), row.told(-2));
                fill(row, arguments, empty);
                Due.due(row.text(arguments), row.call(x, arguments), row.told(-2));
                Due.due(row.promise() + ": told(8) after EMPTY", x.told(8), 8);
                Due.due(row.promise() + ": blocks(" + empty + ")", x.blocks(empty), -2);
            }
        }
    }

    /** Good arguments, with this register wherever one is read or written. */
    private static void fill(Calls.Row row, int[] arguments, int register) {
        int[] good = row.goodArguments();
        for (int i = 0; i < arguments.length; i++) {
            Calls.Kind kind = row.kinds()[i];
            boolean isRegister = kind == Calls.Kind.READ || kind == Calls.Kind.WRITE;
            arguments[i] = isRegister ? register : good[i];
        }
    }

    /** A register that is only written may be empty. */
    private static void writtenEmpty(Calls.Row row, int empty) {
        for (int place = 0; place < row.kinds().length; place++) {
            if (row.kinds()[place] == Calls.Kind.WRITE) {
                PartitionPoset x = allBut(empty);
                Due.text(x, "0/1/2");
                int[] arguments = new int[row.kinds().length];
                fill(row, arguments, (empty + 3) % 8);
                for (int i = 0; i < arguments.length; i++) {
                    arguments[i] = row.kinds()[i] == Calls.Kind.SET ? 255 - (1 << empty)
                            : arguments[i];
                }
                arguments[place] = empty;
                long answer = row.call(x, arguments);
                Due.holds(row.text(arguments) + " answered " + answer, !row.isFault(answer));
                Due.holds(row.text(arguments) + " fills the register", x.blocks(empty) > 0);
                Due.due(row.promise() + ": told(1)", x.told(1), 8);
            }
        }
    }

    /** "EMPTY if a register of the set is empty." */
    private static void medianOfEmpty(int empty) {
        PartitionPoset x = allBut(empty);
        for (int set = 1; set <= 255; set++) {
            int due = (set >> empty & 1) != 0 ? -2 : 0;
            Due.due("48: median(" + set + ", 7 - " + empty + ")", x.median(set, 7 - empty), due);
        }
    }

    private static void toldOfEmpty(int empty) {
        PartitionPoset x = allBut(empty);
        Due.due("50: told(1), all but " + empty, x.told(1), 7);
        Due.due("51: digest(), all but " + empty, x.digest(), Due.digestByWord(x));
        x = Due.ofSize(3);
        x.finest(empty);
        Due.due("50: told(1), only " + empty, x.told(1), 1);
        Due.due("51: digest(), only " + empty, x.digest(), Due.digestByWord(x));
        Due.due("48: median(255, 0), only " + empty, x.median(255, 0), -2);
        Due.due("48: median of the only one", x.median(1 << empty, empty), 0);
    }

    private static void allAreEmpty() {
        for (Calls.Row row : Calls.all()) {
            if (row.has(Calls.Kind.READ) || row.has(Calls.Kind.SET)) {
                PartitionPoset x = new PartitionPoset();
                int[] arguments = row.goodArguments();
                Due.due(row.text(arguments) + " of a new object", row.call(x, arguments),
                        row.told(-2));
                Due.due(row.promise() + ": told(8) after EMPTY", x.told(8), 0);
            }
        }
    }

    /** setSize() empties all registers, and undo() those that were empty before. */
    private static void emptyAgain() {
        PartitionPoset x = allBut(8);
        Due.due("2: setSize(3)", x.setSize(3), 3);
        for (int r = 0; r < 8; r++) {
            Due.due("2: blocks(" + r + ") after setSize()", x.blocks(r), -2);
        }
        Due.due("49: undo()", x.undo(), 9);
        for (int r = 7; r >= 0; r--) {
            Due.due("49: blocks(" + r + ")", x.blocks(r), 1);
            Due.due("49: undo()", x.undo(), r + 1);
            Due.due("49: blocks(" + r + ") after undo()", x.blocks(r), -2);
            Due.due("49: told(1)", x.told(1), r);
        }
    }
}
