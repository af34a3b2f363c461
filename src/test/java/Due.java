/** Compares answers with those that are due, and counts the wrong ones. */
final class Due {
    private static int wrong = 0;

    private Due() {
    }

    static void due(String call, long got, long want) {
        if (got != want) {
            wrong++;
            System.out.println(call + " answered " + got + ", due is " + want);
        }
    }

    static void holds(String what, boolean truth) {
        if (!truth) {
            wrong++;
            System.out.println("does not hold: " + what);
        }
    }

    static int wrongAnswers() {
        return wrong;
    }

    static void end() {
        System.out.println(wrong == 0 ? "all answers are as due" : wrong + " answers are not as due");
        if (wrong != 0) {
            System.exit(1);
        }
    }

    /** Puts a text into the text buffer, in place of what it held. */
    static void text(PartitionPoset x, String text) {
        x.clear();
        for (int i = 0; i < text.length(); i++) {
            x.type(text.charAt(i));
        }
    }

    /** Reads a text into a register; returns what read() returned. */
    static int read(PartitionPoset x, int t, String text) {
        text(x, text);
        return x.read(t);
    }

    /** The growth string of a register, without a sign between the numbers. */
    static String growth(PartitionPoset x, int r) {
        StringBuilder text = new StringBuilder();
        for (int e = 0; e < x.told(0); e++) {
            text.append(x.blockOf(r, e));
        }
        return text.toString();
    }

    static void growthIs(PartitionPoset x, int r, String want) {
        String got = growth(x, r);
        if (!got.equals(want)) {
            wrong++;
            System.out.println("register " + r + " holds " + got + ", due is " + want);
        }
    }

    /** A new object with n elements. */
    static PartitionPoset ofSize(int n) {
        PartitionPoset x = new PartitionPoset();
        x.setSize(n);
        return x;
    }
}
