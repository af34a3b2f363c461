/** The three examples of the document's Description. */
final class ExamplesTest {
    private ExamplesTest() {
    }

    public static void main(String[] args) {
        allOfThreeElements();
        aCrossingPartition();
        aFaultAForbiddenSizeAndUndo();
        Due.end();
    }

    private static void allOfThreeElements() {
        PartitionPoset x = new PartitionPoset();
        Due.due("1: setSize(3)", x.setSize(3), 5);
        Due.due("1: finest(0)", x.finest(0), 3);
        Due.due("1: coarsest(1)", x.coarsest(1), 1);
        Due.due("1: count()", x.count(), 5);
        Due.due("1: moebius(0, 1)", x.moebius(0, 1), 2);
        Due.due("1: chains(0, 1, 2)", x.chains(0, 1, 2), 3);
        Due.due("1: characteristic(0, 1, 1)", x.characteristic(0, 1, 1), 0);
    }

    private static void aCrossingPartition() {
        PartitionPoset x = new PartitionPoset();
        Due.due("2: setSize(4)", x.setSize(4), 5);
        int[] bytes = {48, 50, 47, 49, 51};
        for (int i = 0; i < bytes.length; i++) {
            Due.due("2: type(" + bytes[i] + ")", x.type(bytes[i]), i + 1);
        }
        Due.due("2: read(0)", x.read(0), 2);
        Due.due("2: index(0)", x.index(0), 6);
        Due.due("2: crossings(0)", x.crossings(0), 1);
        Due.due("2: noncrossing(true)", x.noncrossing(true), 0);
        Due.due("2: why(0)", x.why(0), 5);
        Due.due("2: where(0)", x.where(0), 1);
        Due.due("2: index(0)", x.index(0), -9);
    }

    private static void aFaultAForbiddenSizeAndUndo() {
        PartitionPoset x = new PartitionPoset();
        Due.due("3: setSize(3)", x.setSize(3), 5);
        Due.due("3: type(48)", x.type(48), 1);
        Due.due("3: type(47)", x.type(47), 2);
        Due.due("3: type(48)", x.type(48), 3);
        Due.due("3: read(0)", x.read(0), -12);
        Due.due("3: blocks(0)", x.blocks(0), -2);
        Due.due("3: finest(0)", x.finest(0), 3);
        Due.due("3: allowSize(2, false)", x.allowSize(2, false), 1);
        Due.due("3: count()", x.count(), 2);
        Due.due("3: bounds(0, 0, false)", x.bounds(0, 0, false), 1);
        Due.due("3: undo()", x.undo(), 2);
        Due.due("3: told(2)", x.told(2), 126);
    }
}
