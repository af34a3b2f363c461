import java.util.Random;

/**
 * Promises 1 to 51: long runs of calls, drawn with fixed seeds, on the program and on NaivePoset,
 * which must answer alike. Wrong arguments, empty registers and calls that come too early are among
 * them; digest() and undo() show what a call changed.
 */
final class NaiveRunsTest {
    private static final int RUNS = 400;
    private static final int CALLS = 512;

    private final Random random;
    private final PartitionPoset x = new PartitionPoset();
    private final NaivePoset y = new NaivePoset();
    private final int run;
    private int calls = 0;

    private NaiveRunsTest(int run) {
        this.run = run;
        this.random = new Random(7919L * run + 1);
    }

    public static void main(String[] args) {
        for (int run = 0; run < RUNS; run++) {
            new NaiveRunsTest(run).go();
        }
        Due.end();
    }

    private void go() {
        if (run % 4 != 0) {
            int n = 1 + random.nextInt(6);
            n = random.nextBoolean() ? 6 : n;
            same("setSize(" + n + ")", x.setSize(n), y.setSize(n));
        }
        while (calls < CALLS - 20 && Due.wrongAnswers() < 20) {
            call(random.nextInt(100));
        }
        same("digest()", x.digest(), y.digest());
    }

    private void same(String call, long got, long want) {
        calls++;
        Due.due("run " + run + ", call " + calls + ": " + call, got, want);
    }

    private int r() {
        int drawn = random.nextInt(40);
        if (drawn == 0) {
            return new int[] {-1, 8, Integer.MIN_VALUE, Integer.MAX_VALUE}[random.nextInt(4)];
        }
        return drawn < 30 ? random.nextInt(4) : random.nextInt(8);
    }

    private int element() {
        int drawn = random.nextInt(30);
        if (drawn == 0) {
            return new int[] {-1, 6, Integer.MIN_VALUE, Integer.MAX_VALUE}[random.nextInt(4)];
        }
        return drawn == 1 ? random.nextInt(6) : random.nextInt(y.told(0));
    }

    private int oneToSix() {
        int drawn = random.nextInt(20);
        if (drawn == 0) {
            return new int[] {-1, 0, 7, Integer.MIN_VALUE, Integer.MAX_VALUE}[random.nextInt(5)];
        }
        return 1 + random.nextInt(6);
    }

    private int base() {
        int drawn = random.nextInt(20);
        return drawn == 0 ? new int[] {-10, 10, Integer.MIN_VALUE}[random.nextInt(3)]
                : random.nextInt(19) - 9;
    }

    private void call(int drawn) {
        if (drawn < 12) {
            restrict(random.nextInt(12));
        } else if (drawn < 18) {
            text(random.nextInt(6));
        } else if (drawn < 48) {
            change(random.nextInt(22));
        } else if (drawn < 62) {
            look(random.nextInt(8));
        } else if (drawn < 72) {
            order(random.nextInt(5));
        } else if (drawn < 88) {
            interval(random.nextInt(7));
        } else if (drawn < 93) {
            distance(random.nextInt(3));
        } else {
            history(random.nextInt(6));
        }
    }

    private void restrict(int which) {
        boolean on = random.nextInt(4) > 0;
        int i = element();
        int j = element();
        int k = oneToSix();
        switch (which) {
            case 0:
                if (random.nextInt(6) == 0) {
                    same("setSize(" + k + ")", x.setSize(k), y.setSize(k));
                }
                return;
            case 1, 2, 3:
                same("allowSize(" + k + ", " + on + ")", x.allowSize(k, on), y.allowSize(k, on));
                return;
            case 4, 5:
                same("allowNumber(" + k + ", " + on + ")", x.allowNumber(k, on),
                        y.allowNumber(k, on));
                return;
            case 6, 7:
                on = random.nextInt(3) == 0;
                same("apart(" + i + ", " + j + ", " + on + ")", x.apart(i, j, on),
                        y.apart(i, j, on));
                return;
            case 8, 9:
                on = random.nextInt(3) == 0;
                same("together(" + i + ", " + j + ", " + on + ")", x.together(i, j, on),
                        y.together(i, j, on));
                return;
            default:
                on = random.nextBoolean();
                same("noncrossing(" + on + ")", x.noncrossing(on), y.noncrossing(on));
        }
    }

    private void text(int which) {
        if (which == 0) {
            int c = random.nextInt(140) - 6;
            same("type(" + c + ")", x.type(c), y.type(c));
        } else if (which == 1) {
            same("clear()", x.clear(), y.clear());
        } else if (which == 2) {
            for (int i = random.nextInt(8); i >= 0; i--) {
                int c = "0123456/".charAt(random.nextInt(8));
                same("type(" + c + ")", x.type(c), y.type(c));
            }
        } else {
            same("clear()", x.clear(), y.clear());
            for (char c : someText().toCharArray()) {
                same("type(" + (int) c + ")", x.type(c), y.type(c));
            }
        }
        int t = r();
        same("read(" + t + ")", x.read(t), y.read(t));
    }

    /** A partition as a text, now and then with a fault. */
    private String someText() {
        StringBuilder text = new StringBuilder();
        int n = y.told(0);
        for (int e = 0; e < n; e++) {
            text.insert(random.nextInt(text.length() + 1), e);
        }
        for (int i = text.length() - 1; i > 0; i--) {
            if (random.nextInt(3) == 0) {
                text.insert(i, '/');
            }
        }
        if (random.nextInt(4) == 0) {
            text.insert(random.nextInt(text.length() + 1), "0123456/ :".charAt(random.nextInt(10)));
        }
        if (random.nextInt(6) == 0) {
            text.deleteCharAt(random.nextInt(text.length()));
        }
        return text.toString();
    }

    private void change(int which) {
        int r = r();
        int s = r();
        int t = r();
        int i = element();
        int j = element();
        String rst = "(" + r + ", " + s + ", " + t + ")";
        String rij = "(" + r + ", " + i + ", " + j + ")";
        switch (which) {
            case 0:
                same("finest(" + t + ")", x.finest(t), y.finest(t));
                return;
            case 1:
                same("coarsest(" + t + ")", x.coarsest(t), y.coarsest(t));
                return;
            case 2:
                same("copy(" + r + ", " + t + ")", x.copy(r, t), y.copy(r, t));
                return;
            case 3:
                same("meet" + rst, x.meet(r, s, t), y.meet(r, s, t));
                return;
            case 4:
                same("join" + rst, x.join(r, s, t), y.join(r, s, t));
                return;
            case 5, 6:
                same("unite" + rij, x.unite(r, i, j), y.unite(r, i, j));
                return;
            case 7, 8:
                same("isolate(" + r + ", " + i + ")", x.isolate(r, i), y.isolate(r, i));
                return;
            case 9, 10:
                same("swap" + rij, x.swap(r, i, j), y.swap(r, i, j));
                return;
            case 11, 12:
                same("rotate(" + r + ")", x.rotate(r), y.rotate(r));
                return;
            case 13, 14:
                same("complement(" + r + ", " + t + ")", x.complement(r, t), y.complement(r, t));
                return;
            case 15, 16:
                int k = random.nextInt(y.count() + 3) - 1;
                same("unrank(" + t + ", " + k + ")", x.unrank(t, k), y.unrank(t, k));
                return;
            case 17:
                same("next(" + r + ")", x.next(r), y.next(r));
                return;
            case 18:
                same("previous(" + r + ")", x.previous(r), y.previous(r));
                return;
            default:
                int seed = random.nextInt();
                same("draw(" + t + ", " + seed + ")", x.draw(t, seed), y.draw(t, seed));
        }
    }

    private void look(int which) {
        int r = r();
        int i = element();
        switch (which) {
            case 0:
                same("blocks(" + r + ")", x.blocks(r), y.blocks(r));
                return;
            case 1:
                same("blockOf(" + r + ", " + i + ")", x.blockOf(r, i), y.blockOf(r, i));
                return;
            case 2:
                same("block(" + r + ", " + i + ")", x.block(r, i), y.block(r, i));
                return;
            case 3:
                same("typeOf(" + r + ")", x.typeOf(r), y.typeOf(r));
                return;
            case 4:
                same("crossings(" + r + ")", x.crossings(r), y.crossings(r));
                return;
            case 5:
                same("index(" + r + ")", x.index(r), y.index(r));
                return;
            case 6:
                same("why(" + r + ")", x.why(r), y.why(r));
                return;
            default:
                same("where(" + r + ")", x.where(r), y.where(r));
        }
    }

    private void order(int which) {
        int r = r();
        int s = r();
        int t = r();
        boolean down = random.nextBoolean();
        int k = oneToSix();
        switch (which) {
            case 0:
                same("count()", x.count(), y.count());
                same("countWith(" + k + ")", x.countWith(k), y.countWith(k));
                return;
            case 1:
                same("below(" + r + ", " + s + ")", x.below(r, s), y.below(r, s));
                return;
            case 2:
                same("covers(" + r + ", " + down + ")", x.covers(r, down), y.covers(r, down));
                return;
            case 3:
                same("bounds(" + r + ", " + s + ", " + down + ")", x.bounds(r, s, down),
                        y.bounds(r, s, down));
                return;
            default:
                same("bound(" + r + ", " + s + ", " + down + ", " + t + ")",
                        x.bound(r, s, down, t), y.bound(r, s, down, t));
        }
    }

    private void interval(int which) {
        int r = r();
        int s = r();
        int far = random.nextInt(3);
        if (far == 0) {
            same("finest(" + r + ")", x.finest(r), y.finest(r));
            same("coarsest(" + s + ")", x.coarsest(s), y.coarsest(s));
        } else if (far == 1) {
            int low = y.count() - 1 - random.nextInt(3);
            int high = random.nextInt(3);
            same("unrank(" + r + ", " + low + ")", x.unrank(r, low), y.unrank(r, low));
            same("unrank(" + s + ", " + high + ")", x.unrank(s, high), y.unrank(s, high));
        }
        int b = base();
        int k = random.nextInt(8) - 1;
        String rs = "(" + r + ", " + s + ")";
        String rsb = "(" + r + ", " + s + ", " + b + ")";
        switch (which) {
            case 0:
                same("interval" + rs, x.interval(r, s), y.interval(r, s));
                return;
            case 1:
                same("moebius" + rs, x.moebius(r, s), y.moebius(r, s));
                return;
            case 2:
                same("chains(" + r + ", " + s + ", " + k + ")", x.chains(r, s, k),
                        y.chains(r, s, k));
                return;
            case 3:
                same("maximalChains" + rs, x.maximalChains(r, s), y.maximalChains(r, s));
                return;
            case 4:
                same("height" + rs, x.height(r, s), y.height(r, s));
                return;
            case 5:
                same("rankSum" + rsb, x.rankSum(r, s, b), y.rankSum(r, s, b));
                return;
            default:
                same("characteristic" + rsb, x.characteristic(r, s, b),
                        y.characteristic(r, s, b));
        }
    }

    private void distance(int which) {
        int r = r();
        int s = r();
        if (which == 0) {
            same("transfers(" + r + ", " + s + ")", x.transfers(r, s), y.transfers(r, s));
        } else if (which == 1) {
            same("disagreements(" + r + ", " + s + ")", x.disagreements(r, s),
                    y.disagreements(r, s));
        } else {
            int set = random.nextInt(8) == 0 ? random.nextInt(300) - 20 : 1 + random.nextInt(15);
            same("median(" + set + ", " + r + ")", x.median(set, r), y.median(set, r));
        }
    }

    private void history(int which) {
        if (which < 2) {
            for (int i = random.nextInt(random.nextInt(8) == 0 ? 12 : 3); i >= 0; i--) {
                same("undo()", x.undo(), y.undo());
            }
        } else if (which < 4) {
            int what = random.nextInt(12) - 1;
            same("told(" + what + ")", x.told(what), y.told(what));
        } else {
            same("digest()", x.digest(), y.digest());
        }
    }
}
