import java.util.List;
import java.util.function.Supplier;

/**
 * "A call that returns an error code, or -10 or less where a method says so, changes nothing": no
 * register, no restriction, no byte of the text, and no state that is remembered. Nor does a call
 * that is no change at all.
 */
final class NothingChangesTest {
    /** With few states; with ten, so that one more would drop the oldest; with restrictions. */
    private static final List<Supplier<PartitionPoset>> RECIPES = List.of(
        () -> Twins.withStates(3), () -> Twins.withStates(12), Twins::restricted);

    private NothingChangesTest() {
    }

    public static void main(String[] args) {
        for (Supplier<PartitionPoset> recipe : RECIPES) {
            for (Calls.Row row : Calls.all()) {
                outOfRange(row, recipe);
                empty(row, recipe);
                lookedAt(row, recipe);
            }
            bothElementsTheSame(recipe);
            textsWithFaults(recipe);
            fullText(recipe);
            crossing(recipe);
            noneAdmitted(recipe);
            notAdmitted(recipe);
            noOrManyBounds(recipe);
        }
        nothingToUndo();
        Due.end();
    }

    /** The call must answer the code, and change nothing. */
    private static void refused(Calls.Row row, Supplier<PartitionPoset> recipe, int code,
            int... arguments) {
        Twins.changesNothing(row.text(arguments), recipe,
                x -> Due.due(row.text(arguments), row.call(x, arguments), row.told(code)));
    }

    private static void outOfRange(Calls.Row row, Supplier<PartitionPoset> recipe) {
        for (int place = 0; place < row.kinds().length; place++) {
            if (row.kinds()[place].hasRange()) {
                int[] outside = row.kinds()[place].outside(recipe.get());
                refused(row, recipe, -1, row.goodArgumentsBut(place, outside[0]));
                refused(row, recipe, -1, row.goodArgumentsBut(place, outside[1]));
            }
        }
    }

    private static void empty(Calls.Row row, Supplier<PartitionPoset> recipe) {
        for (int place = 0; place < row.kinds().length; place++) {
            if (row.kinds()[place] == Calls.Kind.READ) {
                refused(row, recipe, -2, row.goodArgumentsBut(place, 7));
            } else if (row.kinds()[place] == Calls.Kind.SET) {
                refused(row, recipe, -2, row.goodArgumentsBut(place, 128 + 1));
            }
        }
    }

    private static void lookedAt(Calls.Row row, Supplier<PartitionPoset> recipe) {
        boolean isLook = !row.isChange() && row.promise() != 8 && row.promise() != 9
                && row.promise() != 49;
        if (isLook) {
            int[] good = row.goodArguments();
            Twins.changesNothing(row.text(good), recipe, x -> row.call(x, good));
        }
    }

    private static void bothElementsTheSame(Supplier<PartitionPoset> recipe) {
        for (int promise = 5; promise <= 6; promise++) {
            refused(Calls.of(promise), recipe, -1, 2, 2, 0);
            refused(Calls.of(promise), recipe, -1, 2, 2, 1);
        }
    }

    private static void textsWithFaults(Supplier<PartitionPoset> recipe) {
        String[] texts = {"", "/", "4", "0/1/2", "0123/", "012/3/3", "0//123", "0/123 "};
        int[] positions = {0, 0, 0, 5, 5, 6, 2, 5};
        for (int i = 0; i < texts.length; i++) {
            String text = texts[i];
            Supplier<PartitionPoset> withText = () -> {
                PartitionPoset x = recipe.get();
                Due.text(x, text);
                return x;
            };
            refused(Calls.of(10), withText, -10 - positions[i], 0);
            refused(Calls.of(10), withText, -10 - positions[i], 7);
        }
    }

    private static void fullText(Supplier<PartitionPoset> recipe) {
        refused(Calls.of(8), () -> {
            PartitionPoset x = recipe.get();
            Due.text(x, "0/123///////////////");
            return x;
        }, -4, '4');
    }

    private static void crossing(Supplier<PartitionPoset> recipe) {
        Supplier<PartitionPoset> withCrossing = () -> {
            PartitionPoset x = recipe.get();
            Due.read(x, 0, "02/13");
            Due.text(x, "0/1/23");
            return x;
        };
        refused(Calls.of(20), withCrossing, -3, 0, 0);
        refused(Calls.of(20), withCrossing, -3, 0, 7);
    }

    private static void noneAdmitted(Supplier<PartitionPoset> recipe) {
        Supplier<PartitionPoset> noneLeft = () -> {
            PartitionPoset x = recipe.get();
            x.apart(2, 3, true);
            x.together(2, 3, true);
            return x;
        };
        refused(Calls.of(21), noneLeft, -1, 0, 0);
        refused(Calls.of(24), noneLeft, -3, 0, 5);
        refused(Calls.of(24), noneLeft, -3, 7, 5);
        refused(Calls.of(38), noneLeft, -3, 0, 1, 0, 7);
        refused(Calls.of(38), noneLeft, -3, 0, 1, 1, 0);
        refused(Calls.of(48), noneLeft, -3, 3, 0);
        refused(Calls.of(48), noneLeft, -3, 3, 7);
    }

    /** The coarsest in 1 is not admitted; the finest in 0 may be. */
    private static void notAdmitted(Supplier<PartitionPoset> recipe) {
        Supplier<PartitionPoset> withoutOneBlock = () -> {
            PartitionPoset x = recipe.get();
            x.allowNumber(1, false);
            return x;
        };
        refused(Calls.of(36), withoutOneBlock, -3, 1, 0);
        refused(Calls.of(36), withoutOneBlock, -3, 1, 1);
        refused(Calls.of(40), withoutOneBlock, -3, 0, 1);
        refused(Calls.of(40), withoutOneBlock, -3, 1, 0);
        refused(Calls.of(41), withoutOneBlock, -3, 0, 1, 2);
        refused(Calls.of(42), withoutOneBlock, -3, 0, 1);
        refused(Calls.of(43), withoutOneBlock, -3, 1, 0);
        refused(Calls.of(45), withoutOneBlock, -3, 1, 1, 2);
    }

    private static void noOrManyBounds(Supplier<PartitionPoset> recipe) {
        Supplier<PartitionPoset> withTwoBlocksAlone = () -> {
            PartitionPoset x = recipe.get();
            x.setSize(4);
            x.finest(0);
            x.coarsest(1);
            x.allowNumber(1, false);
            x.allowNumber(3, false);
            x.allowNumber(4, false);
            Due.text(x, "0/123");
            return x;
        };
        // Seven are above the finest one, and none is above the coarsest one.
        refused(Calls.of(38), withTwoBlocksAlone, -3, 0, 0, 0, 7);
        refused(Calls.of(38), withTwoBlocksAlone, -3, 0, 1, 0, 0);
        refused(Calls.of(38), withTwoBlocksAlone, -3, 0, 0, 1, 7);
        refused(Calls.of(38), withTwoBlocksAlone, -3, 1, 1, 1, 0);
    }

    private static void nothingToUndo() {
        refused(Calls.of(49), PartitionPoset::new, -3);
        refused(Calls.of(49), () -> {
            PartitionPoset x = Twins.withStates(5);
            for (int i = 0; i < 5; i++) {
                x.undo();
            }
            return x;
        }, -3);
        refused(Calls.of(49), () -> {
            PartitionPoset x = Twins.withStates(15);
            for (int i = 0; i < 10; i++) {
                x.undo();
            }
            return x;
        }, -3);
    }
}
