import java.util.function.Consumer;
import java.util.function.Supplier;

/**
 * Two objects made alike. What a call changed on the one shows in what both answer from then on:
 * the partitions in all registers, the text, each restriction, and all that undo() brings back.
 */
final class Twins {
    private static final int MORE_THAN_ARE_REMEMBERED = 12;

    private Twins() {
    }

    /** Four elements, the finest in 0, the coarsest in 1, the text 03/12; 3 states or more. */
    static PartitionPoset withStates(int states) {
        PartitionPoset x = Due.ofSize(4);
        x.finest(0);
        x.coarsest(1);
        for (int i = 3; i < states; i++) {
            // Each of these makes a state that no other one is like.
            x.unrank(i % 4 + 3, i);
        }
        Due.text(x, "03/12");
        return x;
    }

    /** As withStates(), with a restriction of each kind, and a partition that is not admitted. */
    static PartitionPoset restricted() {
        PartitionPoset x = withStates(3);
        Due.read(x, 5, "02/13");
        x.allowSize(3, false);
        x.allowNumber(2, false);
        x.apart(0, 1, true);
        x.together(2, 3, true);
        x.noncrossing(true);
        Due.text(x, "03/12");
        return x;
    }

    /** All that can be seen of the partitions, without a change. */
    static String view(PartitionPoset x) {
        return Due.growths(x) + x.digest();
    }

    static void sameView(String what, PartitionPoset one, PartitionPoset other) {
        Due.due(what + ": what is seen", view(one), view(other));
    }

    /** The call must leave nothing behind, neither now nor in what is remembered. */
    static void changesNothing(String what, Supplier<PartitionPoset> recipe,
            Consumer<PartitionPoset> call) {
        PartitionPoset one = recipe.get();
        call.accept(one);
        samePresent(what, one, recipe.get());
        one = recipe.get();
        call.accept(one);
        sameHistory(what, one, recipe.get());
    }

    /** The registers, the text and each restriction. Changes both objects. */
    static void samePresent(String what, PartitionPoset one, PartitionPoset other) {
        sameView(what, one, other);
        for (int k = 1; k <= 6; k++) {
            Due.due(what + ": size " + k, one.allowSize(k, true), other.allowSize(k, true));
            Due.due(what + ": number " + k, one.allowNumber(k, true), other.allowNumber(k, true));
        }
        for (int i = 0; i < 6; i++) {
            for (int j = i + 1; j < 6; j++) {
                Due.due(what + ": apart " + i + j, one.apart(i, j, false),
                        other.apart(i, j, false));
                Due.due(what + ": together " + i + j, one.together(i, j, false),
                        other.together(i, j, false));
            }
        }
        Due.due(what + ": noncrossing", one.noncrossing(false), other.noncrossing(false));
        Due.due(what + ": the text is read", one.read(7), other.read(7));
        Due.due(what + ": its length", one.clear(), other.clear());
        sameView(what + ", unrestricted", one, other);
    }

    /** All states that undo() goes back to, and their number. */
    static void sameHistory(String what, PartitionPoset one, PartitionPoset other) {
        for (int i = 0; i < MORE_THAN_ARE_REMEMBERED; i++) {
            Due.due(what + ", undo() " + i, one.undo(), other.undo());
            sameView(what + ", undo() " + i, one, other);
        }
    }
}
