/**
 * Promises 2 to 51, "BAD: an argument is out of range": each argument of each method just below its
 * range, at both of its ends, just above it, and far away.
 */
final class ArgumentRangesTest {
    private ArgumentRangesTest() {
    }

    public static void main(String[] args) {
        for (int n = 1; n <= 6; n++) {
            for (Calls.Row row : Calls.all()) {
                for (int place = 0; place < row.kinds().length; place++) {
                    if (row.kinds()[place].hasRange()) {
                        endsOfTheRange(row, place, n);
                        outsideTheRange(row, place, n);
                    }
                }
            }
        }
        elementsOfPairs();
        numbersBeyondTheGroundSet();
        indicesByTheRestrictions();
        Due.end();
    }

    /** n elements, and admitted partitions in all registers. */
    private static PartitionPoset filled(int n) {
        PartitionPoset x = Due.ofSize(n);
        for (int r = 0; r < 8; r++) {
            if (r % 2 == 0) {
                x.finest(r);
            } else {
                x.coarsest(r);
            }
        }
        return x;
    }

    private static void endsOfTheRange(Calls.Row row, int place, int n) {
        Calls.Kind kind = row.kinds()[place];
        boolean isPair = row.promise() == 5 || row.promise() == 6;
        if (isPair && n == 1) {
            return;
        }
        for (int end = 0; end <= 1; end++) {
            PartitionPoset x = filled(n);
            int value = end == 0 ? kind.low() : kind.high(x);
            int[] arguments = row.goodArgumentsBut(place, value);
            if (kind == Calls.Kind.ELEMENT) {
                setOtherElement(row, arguments, place, isPair && value == 0 ? 1 : 0);
            } else if (n == 1) {
                setOtherElement(row, arguments, -1, 0);
            }
            long answer = row.call(x, arguments);
            Due.holds(row.text(arguments) + " of " + n + " is in range, but answered " + answer,
                    answer != row.told(-1));
        }
    }

    private static void setOtherElement(Calls.Row row, int[] arguments, int place, int value) {
        for (int i = 0; i < arguments.length; i++) {
            if (i != place && row.kinds()[i] == Calls.Kind.ELEMENT) {
                arguments[i] = value;
            }
        }
    }

    private static void outsideTheRange(Calls.Row row, int place, int n) {
        PartitionPoset x = filled(n);
        for (int value : row.kinds()[place].outside(x)) {
            int[] arguments = row.goodArgumentsBut(place, value);
            Due.due(row.text(arguments) + " of " + n, row.call(x, arguments), row.told(-1));
        }
        Due.due(row.promise() + ": told(8) after faults", x.told(8), 9);
    }

    /** "BAD if there is no such element, or both are the same." */
    private static void elementsOfPairs() {
        for (int n = 1; n <= 6; n++) {
            for (int i = -1; i <= n; i++) {
                for (int j = -1; j <= n; j++) {
                    boolean isPair = i >= 0 && j >= 0 && i < n && j < n && i != j;
                    PartitionPoset x = Due.ofSize(n);
                    String pair = i + ", " + j + ", true) of " + n;
                    Due.due("5: apart(" + pair, x.apart(i, j, true), isPair ? 0 : -1);
                    Due.due("6: together(" + pair, x.together(i, j, true), isPair ? 0 : -1);
                    Due.due("5: told(4) after apart(" + pair, x.told(4), isPair ? 1 : 0);
                    Due.due("6: told(5) after together(" + pair, x.told(5), isPair ? 1 : 0);
                }
            }
        }
    }

    /** Sizes and numbers of blocks go to 6, also if there are fewer elements. */
    private static void numbersBeyondTheGroundSet() {
        for (int n = 1; n <= 6; n++) {
            for (int k = 1; k <= 6; k++) {
                PartitionPoset x = Due.ofSize(n);
                Due.due("3: allowSize(" + k + ", false) of " + n, x.allowSize(k, false), 1);
                Due.due("3: told(2)", x.told(2), 126 - (1 << k));
                Due.due("4: allowNumber(" + k + ", false) of " + n, x.allowNumber(k, false), 1);
                Due.due("4: told(3)", x.told(3), 126 - (1 << k));
                Due.due("34: countWith(" + k + "), forbidden", x.countWith(k), 0);
            }
        }
        PartitionPoset x = Due.ofSize(3);
        int[] due = {-1, 1, 3, 1, 0, 0, 0, -1};
        for (int k = 0; k <= 7; k++) {
            Due.due("34: countWith(" + k + ") of 3", x.countWith(k), due[k]);
        }
    }

    /** "BAD if there is .. no admitted partition with this index." */
    private static void indicesByTheRestrictions() {
        PartitionPoset x = Due.ofSize(4);
        for (int count : new int[] {15, 8, 7, 0}) {
            if (count == 8) {
                x.allowNumber(2, false);
            } else if (count == 7) {
                x.allowNumber(1, false);
            } else if (count == 0) {
                x.allowNumber(3, false);
                x.allowNumber(4, false);
            }
            Due.due("33: count()", x.count(), count);
            Due.due("21: unrank(0, -1) of " + count, x.unrank(0, -1), -1);
            Due.due("21: unrank(0, " + count + ")", x.unrank(0, count), -1);
            if (count > 0) {
                Due.holds("21: the first of " + count, x.unrank(0, 0) > 0 && x.index(0) == 0);
                Due.holds("21: the last of " + count, x.unrank(0, count - 1) > 0
                        && x.index(0) == count - 1);
            } else {
                Due.due("21: unrank(0, 0) of none", x.unrank(0, 0), -1);
            }
        }
    }
}
