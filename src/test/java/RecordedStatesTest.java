/**
 * CHANGES, and promise 49: every change records one state, also if everything is as before and also
 * if it returns NONE; ten are remembered, and one more drops the oldest; undo() goes back.
 */
final class RecordedStatesTest {
    private RecordedStatesTest() {
    }

    public static void main(String[] args) {
        for (Calls.Row row : Calls.all()) {
            if (row.isChange()) {
                isRecordedAndUndone(row);
                dropsTheOldestOfTen(row);
            } else if (row.promise() != 49) {
                recordsNothing(row);
            }
        }
        changesThatChangeNothing();
        changesThatReturnNone();
        noneRecorded();
        tenAndOneMore();
        undoIsNoChange();
        eachPartIsRestored();
        textIsNotRestored();
        Due.end();
    }

    /** With 3 states before, and with 9, so that the change's is the tenth. */
    private static void isRecordedAndUndone(Calls.Row row) {
        int[] good = row.goodArguments();
        for (int states : new int[] {3, 9}) {
            Twins.changesNothing(row.text(good) + " and undo()", () -> Twins.withStates(states),
                x -> {
                    long answer = row.call(x, good);
                    Due.holds(row.text(good) + " answered " + answer, !row.isFault(answer));
                    Due.due(row.text(good) + ", told(8)", x.told(8), states + 1);
                    Due.due(row.text(good) + ", undo()", x.undo(), states);
                });
        }
    }

    private static void dropsTheOldestOfTen(Calls.Row row) {
        int[] good = row.goodArguments();
        PartitionPoset one = Twins.withStates(10);
        PartitionPoset other = Twins.withStates(10);
        Due.due("50: told(8), ten", one.told(8), 10);
        row.call(one, good);
        Due.due(row.text(good) + ", the eleventh: told(8)", one.told(8), 10);
        Due.due(row.text(good) + ", the eleventh: undo()", one.undo(), 9);
        for (int left = 8; left >= 0; left--) {
            Due.due("49: undo()", one.undo(), left);
            Due.due("49: undo()", other.undo(), left + 1);
            Due.due(row.text(good) + ", the eleventh: growth strings", Due.growths(one),
                    Due.growths(other));
        }
        Due.due(row.text(good) + ", the eleventh: the oldest is dropped", one.undo(), -3);
        Due.due("49: one more without it", other.undo(), 0);
    }

    private static void recordsNothing(Calls.Row row) {
        int[] good = row.goodArguments();
        for (int states : new int[] {3, 10}) {
            PartitionPoset x = Twins.withStates(states);
            row.call(x, good);
            Due.due(row.text(good) + ", told(8)", x.told(8), states);
            Twins.sameHistory(row.text(good), textOf(x), textOf(Twins.withStates(states)));
        }
    }

    /** With the same text, which type() and clear() may have changed. */
    private static PartitionPoset textOf(PartitionPoset x) {
        Due.text(x, "0");
        return x;
    }

    /** "also if everything is as before" */
    private static void changesThatChangeNothing() {
        asBefore(2, 4, "setSize(4), all empty", 4);
        asBefore(3, 1, "allowSize, allowed", 2, 1);
        asBefore(4, 1, "allowNumber, allowed", 2, 1);
        asBefore(5, 0, "apart, no pair", 0, 1, 0);
        asBefore(6, 0, "together, no pair", 0, 1, 0);
        asBefore(7, 0, "noncrossing, not demanded", 0);
        asBefore(10, 2, "read, the same", 0);
        asBefore(11, 4, "finest, the same", 1);
        asBefore(12, 1, "coarsest, the same", 2);
        asBefore(13, 2, "copy onto itself", 0, 0);
        asBefore(14, 2, "meet with itself", 0, 0, 0);
        asBefore(15, 2, "join with itself", 0, 0, 0);
        asBefore(16, 2, "unite an element with itself", 0, 1, 1);
        asBefore(16, 2, "unite two of one block", 0, 0, 3);
        asBefore(17, 4, "isolate what is alone", 1, 2);
        asBefore(18, 0, "swap an element with itself", 0, 2, 2);
        asBefore(18, 0, "swap two of one block", 0, 1, 2);
        asBefore(19, 0, "rotate the finest", 1);
        asBefore(20, 3, "complement, the same", 0, 3);
        asBefore(21, 1, "unrank, the same", 2, 0);
        asBefore(24, 8, "draw, the same", 4, 2);
        asBefore(38, 8, "bound, the same", 0, 0, 0, 0);
        asBefore(48, 0, "median of itself", 1, 0);
    }

    /** 03/12 in 0, the finest in 1, the coarsest in 2, and so on; all empty for setSize(). */
    private static void asBefore(int promise, long due, String what, int... arguments) {
        PartitionPoset x = Due.ofSize(4);
        if (promise != 2) {
            Due.read(x, 0, "03/12");
            x.finest(1);
            x.coarsest(2);
            x.complement(0, 3);
            x.draw(4, 2);
        }
        int states = x.told(8);
        String before = Due.growths(x);
        Due.due(promise + ": " + what, Calls.of(promise).call(x, arguments), due);
        Due.due(promise + ": after " + what, Due.growths(x), before);
        Due.due(promise + ": " + what + " is recorded", x.told(8), states + 1);
        Due.due(promise + ": " + what + " is undone", x.undo(), states);
        Due.due(promise + ": after " + what, Due.growths(x), before);
    }

    /** "(and also if they return NONE)", with some states before, and with ten. */
    private static void changesThatReturnNone() {
        for (int states : new int[] {3, 9, 10}) {
            PartitionPoset x = Twins.withStates(states);
            int then = Math.min(states + 1, 10);
            Due.due("22: next(0) of the last one", x.next(0), -9);
            Due.due("22: told(8), next() recorded a state", x.told(8), then);
            Due.growthIs(x, 0, "0123");
            Due.due("49: undo() of NONE", x.undo(), then - 1);
            Due.growthIs(x, 0, "0123");
            Due.due("23: previous(1) of the first one", x.previous(1), -9);
            Due.due("23: told(8), previous() recorded a state", x.told(8), then);
            Due.growthIs(x, 1, "0000");
            Due.due("49: undo() of NONE", x.undo(), then - 1);
            Due.growthIs(x, 1, "0000");
        }
        PartitionPoset x = Twins.withStates(3);
        for (int i = 0; i < 10; i++) {
            Due.due("22: next(0)", x.next(0), -9);
        }
        Due.due("22: told(8): ten times NONE drop all others", x.told(8), 10);
        for (int i = 9; i >= 0; i--) {
            Due.due("49: undo()", x.undo(), i);
        }
        Due.growthIs(x, 0, "0123");
        Due.growthIs(x, 1, "0000");
        Due.due("49: undo(), none left", x.undo(), -3);
    }

    private static void noneRecorded() {
        PartitionPoset x = new PartitionPoset();
        Due.due("50: told(8) of a new object", x.told(8), 0);
        Due.due("49: undo() of a new object", x.undo(), -3);
        Due.due("49: undo() again", x.undo(), -3);
        Due.due("50: told(8)", x.told(8), 0);
        x.setSize(2);
        Due.due("49: undo() of the only one", x.undo(), 0);
        Due.due("49: undo() again", x.undo(), -3);
        Due.due("50: told(0)", x.told(0), 5);
        Due.due("50: told(8)", x.told(8), 0);
    }

    /** After as many changes as the row says, ten at most can be undone, the latest first. */
    private static void tenAndOneMore() {
        for (int changes : new int[] {1, 9, 10, 11, 12, 20, 21, 35}) {
            PartitionPoset x = new PartitionPoset();
            for (int k = 1; k <= changes; k++) {
                x.unrank(0, k);
                Due.due("50: told(8) after " + k, x.told(8), Math.min(k, 10));
            }
            int remembered = Math.min(changes, 10);
            for (int k = 1; k <= remembered; k++) {
                Due.due("49: undo() " + k + " of " + changes, x.undo(), remembered - k);
                int before = changes - k;
                Due.due("49: index(0) then", x.index(0), before == 0 ? -2 : before);
            }
            Due.due("49: undo(), none left of " + changes, x.undo(), -3);
            Due.due("49: index(0) stays", x.index(0), changes > 10 ? changes - 10 : -2);
        }
    }

    private static void undoIsNoChange() {
        PartitionPoset x = new PartitionPoset();
        x.unrank(0, 1);
        x.unrank(0, 2);
        x.unrank(0, 3);
        Due.due("49: undo()", x.undo(), 2);
        Due.due("49: undo() goes on", x.undo(), 1);
        Due.due("49: index(0)", x.index(0), 1);
        x.unrank(0, 7);
        Due.due("49: told(8) after one more change", x.told(8), 2);
        Due.due("49: undo() of it", x.undo(), 1);
        Due.due("49: index(0)", x.index(0), 1);
        Due.due("49: undo()", x.undo(), 0);
        Due.due("49: blocks(0)", x.blocks(0), -2);
    }

    /** "(n, registers, restrictions)" */
    private static void eachPartIsRestored() {
        PartitionPoset x = Twins.restricted();
        x.setSize(6);
        for (int r = 0; r < 8; r++) {
            Due.due("2: blocks(" + r + ")", x.blocks(r), -2);
        }
        x.undo();
        Twins.samePresent("49: undo() of setSize()", x, Twins.restricted());
    }

    /** The text is none of "(n, registers, restrictions)": it stays as it is. */
    private static void textIsNotRestored() {
        PartitionPoset x = Due.ofSize(3);
        Due.text(x, "0/12");
        x.finest(0);
        x.clear();
        Due.due("49: undo()", x.undo(), 1);
        Due.due("50: told(7): clear() stands", x.told(7), 0);
        Due.due("10: read(0) of nothing", x.read(0), -10);
        x.finest(0);
        x.type('0');
        Due.due("49: undo()", x.undo(), 1);
        Due.due("50: told(7): type() stands", x.told(7), 1);
        Due.due("49: undo() of setSize()", x.undo(), 0);
        Due.due("50: told(7)", x.told(7), 1);
        x.setSize(1);
        Due.due("2: told(7) after setSize()", x.told(7), 1);
        Due.due("10: read(0)", x.read(0), 1);
    }
}
