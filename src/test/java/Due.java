/** Compares answers with those that are due, and counts the wrong ones. */
final class Due {
    private static int wrong = 0;

    private Due() {
    }

    static void due(String call, long got, long want) {
        if (got != want) {
            wrong++;
            System.out.println(call + " answered " + got + ", due is " + want);
        }
    }

    static void due(String what, String got, String want) {
        if (!got.equals(want)) {
            wrong++;
            System.out.println(what + " is " + got + ", due is " + want);
        }
    }

    static void holds(String what, boolean truth) {
        if (!truth) {
            wrong++;
            System.out.println("does not hold: " + what);
        }
    }

    static int wrongAnswers() {
        return wrong;
    }

    static void end() {
        System.out.println(wrong == 0 ? "all answers are as due" : wrong + " answers are not as due");
        if (wrong != 0) {
            System.exit(1);
        }
    }

    /** Puts a text into the text buffer, in place of what it held. */
    static void text(PartitionPoset x, String text) {
        x.clear();
        for (int i = 0; i < text.length(); i++) {
            x.type(text.charAt(i));
        }
    }

    /** Reads a text into a register; returns what read() returned. */
    static int read(PartitionPoset x, int t, String text) {
        text(x, text);
        return x.read(t);
    }

    /** The growth string of a register, without a sign between the numbers. */
    static String growth(PartitionPoset x, int r) {
        return growth(x, r, x.told(0));
    }

    private static String growth(PartitionPoset x, int r, int n) {
        StringBuilder text = new StringBuilder();
        for (int e = 0; e < n; e++) {
            text.append(x.blockOf(r, e));
        }
        return text.toString();
    }

    /** The growth strings of all registers. */
    static String growths(PartitionPoset x) {
        int n = x.told(0);
        StringBuilder text = new StringBuilder();
        for (int r = 0; r < 8; r++) {
            text.append(x.blocks(r) == -2 ? "empty" : growth(x, r, n)).append(' ');
        }
        return text.toString();
    }

    static void growthIs(PartitionPoset x, int r, String want) {
        due("register " + r, growth(x, r), want);
    }

    /** What digest() must answer, made of the other answers as promise 51 says. */
    static long digestByWord(PartitionPoset x) {
        long h = 18446;
        for (int what = 0; what <= 8; what++) {
            h = 31 * h + x.told(what);
        }
        h = 31 * h + x.count();
        for (int k = 1; k <= 6; k++) {
            h = 31 * h + x.countWith(k);
        }
        int n = x.told(0);
        for (int r = 0; r < 8; r++) {
            if (x.blocks(r) == -2) {
                h = 31 * h - 9;
            } else {
                h = 31 * h + x.blocks(r);
                for (int e = 0; e < n; e++) {
                    h = 31 * h + x.blockOf(r, e);
                }
                h = 31 * h + x.why(r);
                h = 31 * h + x.where(r);
                h = 31 * h + x.index(r);
            }
        }
        return h;
    }

    /** A new object with n elements. */
    static PartitionPoset ofSize(int n) {
        PartitionPoset x = new PartitionPoset();
        x.setSize(n);
        return x;
    }
}
