import java.util.ArrayDeque;
import java.util.ArrayList;
import java.util.Arrays;
import java.util.HashMap;
import java.util.HashSet;
import java.util.List;
import java.util.Map;
import java.util.Set;
import java.util.TreeSet;

/**
 * The document word by word, with sets of sets, slow and without any of the program's short cuts:
 * what the program is compared with. A partition is held as its place in the list of all partitions
 * of the ground set.
 */
final class NaivePoset {
    static final int BAD = -1, EMPTY = -2, STATE = -3, FULL = -4, NONE = -9;
    private static final Map<Integer, Lattice> LATTICES = new HashMap<>();

    /** All partitions of n elements, and what is below what. */
    private static final class Lattice {
        final List<int[]> growth = new ArrayList<>();
        final List<List<Set<Integer>>> blocks = new ArrayList<>();
        final Map<String, Integer> places = new HashMap<>();
        final boolean[][] below;

        Lattice(int n) {
            int[] labels = new int[n];
            do {
                List<Set<Integer>> found = blocksOf(labels);
                if (Arrays.equals(labels, growthOf(found, n))) {
                    places.put(Arrays.toString(labels), growth.size());
                    growth.add(labels.clone());
                    blocks.add(found);
                }
            } while (count(labels, n));
            below = new boolean[growth.size()][growth.size()];
            for (int a = 0; a < growth.size(); a++) {
                for (int b = 0; b < growth.size(); b++) {
                    below[a][b] = isBelow(blocks.get(a), blocks.get(b));
                }
            }
        }

        private static boolean count(int[] labels, int n) {
            for (int e = n - 1; e >= 0; e--) {
                if (++labels[e] < n) {
                    return true;
                }
                labels[e] = 0;
            }
            return false;
        }

        private static boolean isBelow(List<Set<Integer>> a, List<Set<Integer>> b) {
            for (Set<Integer> block : a) {
                if (b.stream().noneMatch(other -> other.containsAll(block))) {
                    return false;
                }
            }
            return true;
        }
    }

    /** The blocks of equal labels, in the order of their smallest elements. */
    private static List<Set<Integer>> blocksOf(int[] labels) {
        List<Set<Integer>> blocks = new ArrayList<>();
        for (int e = 0; e < labels.length; e++) {
            Set<Integer> home = null;
            for (Set<Integer> block : blocks) {
                if (labels[block.iterator().next()] == labels[e]) {
                    home = block;
                }
            }
            if (home == null) {
                home = new TreeSet<>();
                blocks.add(home);
            }
            home.add(e);
        }
        return blocks;
    }

    private static int[] growthOf(List<Set<Integer>> blocks, int n) {
        int[] growth = new int[n];
        for (int b = 0; b < blocks.size(); b++) {
            for (int e : blocks.get(b)) {
                growth[e] = b;
            }
        }
        return growth;
    }

    /** What undo() restores. */
    private static final class Snapshot {
        int n = 5;
        final Integer[] registers = new Integer[8];
        final Set<Integer> sizes = new TreeSet<>(Set.of(1, 2, 3, 4, 5, 6));
        final Set<Integer> numbers = new TreeSet<>(Set.of(1, 2, 3, 4, 5, 6));
        final Set<List<Integer>> apart = new HashSet<>();
        final Set<List<Integer>> together = new HashSet<>();
        boolean noncrossing;

        Snapshot copy() {
            Snapshot copy = new Snapshot();
            copy.n = n;
            System.arraycopy(registers, 0, copy.registers, 0, 8);
            copy.sizes.retainAll(sizes);
            copy.numbers.retainAll(numbers);
            copy.apart.addAll(apart);
            copy.together.addAll(together);
            copy.noncrossing = noncrossing;
            return copy;
        }
    }

    private Snapshot now = new Snapshot();
    private final ArrayDeque<Snapshot> remembered = new ArrayDeque<>();
    private String text = "";
    private List<Integer> admittedNow;

    private void change() {
        remembered.addLast(now.copy());
        if (remembered.size() > 10) {
            remembered.removeFirst();
        }
        admittedNow = null;
    }

    private Lattice lattice() {
        return LATTICES.computeIfAbsent(now.n, Lattice::new);
    }

    private boolean isBelow(int a, int b) {
        return lattice().below[a][b];
    }

    private boolean isStrictlyBelow(int a, int b) {
        return a != b && isBelow(a, b);
    }

    private List<Set<Integer>> blocksAt(int place) {
        return lattice().blocks.get(place);
    }

    private int placeOf(int[] labels) {
        return lattice().places.get(Arrays.toString(growthOf(blocksOf(labels), labels.length)));
    }

    private boolean share(int place, int i, int j) {
        return lattice().growth.get(place)[i] == lattice().growth.get(place)[j];
    }

    // ---- restrictions

    int setSize(int n) {
        if (n < 1 || n > 6) {
            return BAD;
        }
        int before = now.n;
        change();
        now = new Snapshot();
        now.n = n;
        return before;
    }

    private <T> int toggle(Set<T> set, T item, boolean on) {
        change();
        int before = set.contains(item) ? 1 : 0;
        if (on) {
            set.add(item);
        } else {
            set.remove(item);
        }
        return before;
    }

    int allowSize(int size, boolean allowed) {
        return size < 1 || size > 6 ? BAD : toggle(now.sizes, size, allowed);
    }

    int allowNumber(int number, boolean allowed) {
        return number < 1 || number > 6 ? BAD : toggle(now.numbers, number, allowed);
    }

    private boolean noElement(int i) {
        return i < 0 || i >= now.n;
    }

    int apart(int i, int j, boolean on) {
        return noElement(i) || noElement(j) || i == j ? BAD
                : toggle(now.apart, List.of(Math.min(i, j), Math.max(i, j)), on);
    }

    int together(int i, int j, boolean on) {
        return noElement(i) || noElement(j) || i == j ? BAD
                : toggle(now.together, List.of(Math.min(i, j), Math.max(i, j)), on);
    }

    int noncrossing(boolean on) {
        int before = now.noncrossing ? 1 : 0;
        change();
        now.noncrossing = on;
        return before;
    }

    private static boolean cross(Set<Integer> p, Set<Integer> q) {
        for (int i = 0; i < 6; i++) {
            for (int j = i + 1; j < 6; j++) {
                for (int k = j + 1; k < 6; k++) {
                    for (int l = k + 1; l < 6; l++) {
                        if (p.contains(i) && p.contains(k) && q.contains(j) && q.contains(l)
                                || q.contains(i) && q.contains(k) && p.contains(j)
                                && p.contains(l)) {
                            return true;
                        }
                    }
                }
            }
        }
        return false;
    }

    private List<Integer> crossingPairs(int place) {
        List<Integer> found = new ArrayList<>();
        List<Set<Integer>> blocks = blocksAt(place);
        for (int p = 0; p < blocks.size(); p++) {
            for (int q = p + 1; q < blocks.size(); q++) {
                if (cross(blocks.get(p), blocks.get(q))) {
                    found.add(10 * p + q);
                }
            }
        }
        return found;
    }

    /** The reason and the place of it, or null if the partition is admitted. */
    private int[] objection(int place) {
        List<Set<Integer>> blocks = blocksAt(place);
        for (int b = 0; b < blocks.size(); b++) {
            if (!now.sizes.contains(blocks.get(b).size())) {
                return new int[] {1, b};
            }
        }
        if (!now.numbers.contains(blocks.size())) {
            return new int[] {2, blocks.size()};
        }
        for (int reason = 3; reason <= 4; reason++) {
            for (int i = 0; i < now.n; i++) {
                for (int j = i + 1; j < now.n; j++) {
                    Set<List<Integer>> pairs = reason == 3 ? now.apart : now.together;
                    if (pairs.contains(List.of(i, j)) && share(place, i, j) == (reason == 3)) {
                        return new int[] {reason, 10 * i + j};
                    }
                }
            }
        }
        if (now.noncrossing && !crossingPairs(place).isEmpty()) {
            return new int[] {5, crossingPairs(place).get(0)};
        }
        return null;
    }

    private List<Integer> admitted() {
        if (admittedNow == null) {
            admittedNow = new ArrayList<>();
            for (int place = 0; place < lattice().growth.size(); place++) {
                if (objection(place) == null) {
                    admittedNow.add(place);
                }
            }
        }
        return admittedNow;
    }

    private int indexOf(int place) {
        int index = admitted().indexOf(place);
        return index < 0 ? NONE : index;
    }

    // ---- texts

    int type(int c) {
        if (c < 0 || c > 127) {
            return BAD;
        }
        if (text.length() == 20) {
            return FULL;
        }
        text += (char) c;
        return text.length();
    }

    int clear() {
        int before = text.length();
        text = "";
        return before;
    }

    int read(int t) {
        if (noRegister(t)) {
            return BAD;
        }
        int[] labels = new int[now.n];
        Set<Integer> missing = new TreeSet<>();
        for (int e = 0; e < now.n; e++) {
            missing.add(e);
        }
        int block = 0;
        for (int i = 0; i < text.length(); i++) {
            char c = text.charAt(i);
            boolean behindElement = i > 0 && Character.isDigit(text.charAt(i - 1));
            if (missing.remove(c - '0')) {
                labels[c - '0'] = block;
            } else if (c == '/' && behindElement) {
                block++;
            } else {
                return -10 - i;
            }
        }
        if (!missing.isEmpty() || text.endsWith("/")) {
            return -10 - text.length();
        }
        return put(t, placeOf(labels));
    }

    // ---- registers

    private static boolean noRegister(int r) {
        return r < 0 || r > 7;
    }

    private boolean isEmpty(int r) {
        return now.registers[r] == null;
    }

    private int at(int r) {
        return now.registers[r];
    }

    private int put(int t, int place) {
        change();
        now.registers[t] = place;
        return blocksAt(place).size();
    }

    private int fault(int... registers) {
        for (int r : registers) {
            if (noRegister(r)) {
                return BAD;
            }
        }
        for (int r : registers) {
            if (isEmpty(r)) {
                return EMPTY;
            }
        }
        return 0;
    }

    int finest(int t) {
        return noRegister(t) ? BAD : put(t, lattice().growth.size() - 1);
    }

    int coarsest(int t) {
        return noRegister(t) ? BAD : put(t, 0);
    }

    int copy(int r, int t) {
        if (noRegister(t)) {
            return BAD;
        }
        return fault(r) != 0 ? fault(r) : put(t, at(r));
    }

    int meet(int r, int s, int t) {
        if (noRegister(t)) {
            return BAD;
        }
        if (fault(r, s) != 0) {
            return fault(r, s);
        }
        int[] labels = new int[now.n];
        int label = 0;
        for (Set<Integer> one : blocksAt(at(r))) {
            for (Set<Integer> other : blocksAt(at(s))) {
                for (int e : one) {
                    if (other.contains(e)) {
                        labels[e] = label;
                    }
                }
                label++;
            }
        }
        return put(t, placeOf(labels));
    }

    int join(int r, int s, int t) {
        if (noRegister(t)) {
            return BAD;
        }
        if (fault(r, s) != 0) {
            return fault(r, s);
        }
        List<Integer> above = new ArrayList<>();
        for (int z = 0; z < lattice().growth.size(); z++) {
            if (isBelow(at(r), z) && isBelow(at(s), z)) {
                above.add(z);
            }
        }
        for (int z : above) {
            if (above.stream().allMatch(other -> isBelow(z, other))) {
                return put(t, z);
            }
        }
        throw new IllegalStateException("no join");
    }

    int unite(int r, int i, int j) {
        if (noRegister(r) || noElement(i) || noElement(j)) {
            return BAD;
        }
        if (isEmpty(r)) {
            return EMPTY;
        }
        int[] labels = lattice().growth.get(at(r)).clone();
        int from = labels[i];
        int to = labels[j];
        for (int e = 0; e < now.n; e++) {
            labels[e] = labels[e] == from ? to : labels[e];
        }
        return put(r, placeOf(labels));
    }

    int isolate(int r, int i) {
        if (noRegister(r) || noElement(i)) {
            return BAD;
        }
        if (isEmpty(r)) {
            return EMPTY;
        }
        int[] labels = lattice().growth.get(at(r)).clone();
        labels[i] = 99;
        return put(r, placeOf(labels));
    }

    private int replace(int r, int[] labels) {
        int before = at(r);
        put(r, placeOf(labels));
        return at(r) == before ? 0 : 1;
    }

    int swap(int r, int i, int j) {
        if (noRegister(r) || noElement(i) || noElement(j)) {
            return BAD;
        }
        if (isEmpty(r)) {
            return EMPTY;
        }
        int[] labels = lattice().growth.get(at(r)).clone();
        int label = labels[i];
        labels[i] = labels[j];
        labels[j] = label;
        return replace(r, labels);
    }

    int rotate(int r) {
        if (fault(r) != 0) {
            return fault(r);
        }
        int[] labels = new int[now.n];
        for (int e = 0; e < now.n; e++) {
            labels[e] = lattice().growth.get(at(r))[(e - 1 + now.n) % now.n];
        }
        return replace(r, labels);
    }

    int complement(int r, int t) {
        if (noRegister(t)) {
            return BAD;
        }
        if (fault(r) != 0) {
            return fault(r);
        }
        if (!crossingPairs(at(r)).isEmpty()) {
            return STATE;
        }
        boolean[][] share = new boolean[now.n][now.n];
        for (int i = 0; i < now.n; i++) {
            share[i][i] = true;
            for (int j = i + 1; j < now.n; j++) {
                Set<Integer> between = new TreeSet<>();
                for (int e = i + 1; e <= j; e++) {
                    between.add(e);
                }
                boolean all = true;
                for (Set<Integer> block : blocksAt(at(r))) {
                    all &= between.containsAll(block)
                            || block.stream().noneMatch(between::contains);
                }
                share[i][j] = all;
                share[j][i] = all;
            }
        }
        for (int place = 0; place < lattice().growth.size(); place++) {
            boolean same = true;
            for (int i = 0; i < now.n; i++) {
                for (int j = 0; j < now.n; j++) {
                    same &= share(place, i, j) == share[i][j];
                }
            }
            if (same) {
                return put(t, place);
            }
        }
        throw new IllegalStateException("no complement");
    }

    int unrank(int t, int k) {
        return noRegister(t) || k < 0 || k >= admitted().size() ? BAD : put(t, admitted().get(k));
    }

    private int go(int r, Integer place) {
        change();
        if (place == null) {
            return NONE;
        }
        now.registers[r] = place;
        return indexOf(place);
    }

    int next(int r) {
        if (fault(r) != 0) {
            return fault(r);
        }
        return go(r, admitted().stream().filter(z -> z > at(r)).findFirst().orElse(null));
    }

    int previous(int r) {
        if (fault(r) != 0) {
            return fault(r);
        }
        return go(r, admitted().stream().filter(z -> z < at(r)).reduce((a, b) -> b).orElse(null));
    }

    int draw(int t, int seed) {
        if (noRegister(t)) {
            return BAD;
        }
        if (admitted().isEmpty()) {
            return STATE;
        }
        int x = seed * 1103515245 + 12345;
        int index = ((x >>> 16) & 32767) % admitted().size();
        return go(t, admitted().get(index));
    }

    // ---- one partition

    int blocks(int r) {
        return fault(r) != 0 ? fault(r) : blocksAt(at(r)).size();
    }

    int blockOf(int r, int i) {
        if (noRegister(r) || noElement(i)) {
            return BAD;
        }
        return isEmpty(r) ? EMPTY : lattice().growth.get(at(r))[i];
    }

    int block(int r, int b) {
        if (fault(r) != 0) {
            return fault(r);
        }
        if (b < 0 || b >= blocksAt(at(r)).size()) {
            return NONE;
        }
        return blocksAt(at(r)).get(b).stream().mapToInt(e -> 1 << e).sum();
    }

    int typeOf(int r) {
        if (fault(r) != 0) {
            return fault(r);
        }
        return blocksAt(at(r)).stream().mapToInt(b -> (int) Math.pow(8, b.size() - 1)).sum();
    }

    int crossings(int r) {
        return fault(r) != 0 ? fault(r) : crossingPairs(at(r)).size();
    }

    int index(int r) {
        return fault(r) != 0 ? fault(r) : indexOf(at(r));
    }

    int why(int r) {
        if (fault(r) != 0) {
            return fault(r);
        }
        return objection(at(r)) == null ? 0 : objection(at(r))[0];
    }

    int where(int r) {
        if (fault(r) != 0) {
            return fault(r);
        }
        return objection(at(r)) == null ? NONE : objection(at(r))[1];
    }

    // ---- the admitted partitions

    int count() {
        return admitted().size();
    }

    int countWith(int k) {
        if (k < 1 || k > 6) {
            return BAD;
        }
        return (int) admitted().stream().filter(z -> blocksAt(z).size() == k).count();
    }

    int below(int r, int s) {
        if (fault(r, s) != 0) {
            return fault(r, s);
        }
        return isBelow(at(r), at(s)) ? 1 : 0;
    }

    /** Whether the admitted a covers the admitted b. */
    private boolean covers(int a, int b) {
        return isStrictlyBelow(b, a) && admitted().stream()
                .noneMatch(z -> isStrictlyBelow(b, z) && isStrictlyBelow(z, a));
    }

    private boolean notAdmitted(int r) {
        return objection(at(r)) != null;
    }

    int covers(int r, boolean down) {
        if (fault(r) != 0) {
            return fault(r);
        }
        if (notAdmitted(r)) {
            return STATE;
        }
        return (int) admitted().stream()
                .filter(z -> down ? covers(at(r), z) : covers(z, at(r))).count();
    }

    private List<Integer> nearest(int r, int s, boolean down) {
        List<Integer> bounds = new ArrayList<>();
        for (int z : admitted()) {
            if (down ? isBelow(z, at(r)) && isBelow(z, at(s))
                    : isBelow(at(r), z) && isBelow(at(s), z)) {
                bounds.add(z);
            }
        }
        List<Integer> nearest = new ArrayList<>();
        for (int z : bounds) {
            if (bounds.stream().noneMatch(o -> down ? isStrictlyBelow(z, o)
                    : isStrictlyBelow(o, z))) {
                nearest.add(z);
            }
        }
        return nearest;
    }

    int bounds(int r, int s, boolean down) {
        return fault(r, s) != 0 ? fault(r, s) : nearest(r, s, down).size();
    }

    int bound(int r, int s, boolean down, int t) {
        if (noRegister(t)) {
            return BAD;
        }
        if (fault(r, s) != 0) {
            return fault(r, s);
        }
        List<Integer> nearest = nearest(r, s, down);
        return nearest.size() != 1 ? STATE : go(t, nearest.get(0));
    }

    // ---- intervals

    private List<Integer> between(int a, int b) {
        List<Integer> found = new ArrayList<>();
        for (int z : admitted()) {
            if (isBelow(a, z) && isBelow(z, b)) {
                found.add(z);
            }
        }
        return found;
    }

    int interval(int r, int s) {
        return fault(r, s) != 0 ? fault(r, s) : between(at(r), at(s)).size();
    }

    private long moebiusOf(int a, int b, Map<Integer, Long> known) {
        if (a == b) {
            return 1;
        }
        if (!isBelow(a, b)) {
            return 0;
        }
        if (!known.containsKey(b)) {
            long sum = 0;
            for (int z : between(a, b)) {
                if (z != b) {
                    sum += moebiusOf(a, z, known);
                }
            }
            known.put(b, -sum);
        }
        return known.get(b);
    }

    private int faultOfAdmitted(int r, int s) {
        if (fault(r, s) != 0) {
            return fault(r, s);
        }
        return notAdmitted(r) || notAdmitted(s) ? STATE : 0;
    }

    long moebius(int r, int s) {
        int fault = faultOfAdmitted(r, s);
        return fault != 0 ? -1000000000L + fault : moebiusOf(at(r), at(s), new HashMap<>());
    }

    private long chainsOf(int a, int b, int steps, Map<List<Integer>, Long> known) {
        if (steps == 0) {
            return a == b ? 1 : 0;
        }
        List<Integer> key = List.of(a, steps);
        if (!known.containsKey(key)) {
            long sum = 0;
            for (int z : between(a, b)) {
                if (z != a) {
                    sum += chainsOf(z, b, steps - 1, known);
                }
            }
            known.put(key, sum);
        }
        return known.get(key);
    }

    long chains(int r, int s, int k) {
        if (k < 0 || k > 5) {
            return BAD;
        }
        int fault = faultOfAdmitted(r, s);
        return fault != 0 ? fault : chainsOf(at(r), at(s), k, new HashMap<>());
    }

    private long maximalOf(int a, int b, Map<Integer, Long> known) {
        if (a == b) {
            return 1;
        }
        if (!known.containsKey(a)) {
            long sum = 0;
            for (int z : between(a, b)) {
                if (covers(z, a)) {
                    sum += maximalOf(z, b, known);
                }
            }
            known.put(a, sum);
        }
        return known.get(a);
    }

    long maximalChains(int r, int s) {
        int fault = faultOfAdmitted(r, s);
        return fault != 0 ? fault : maximalOf(at(r), at(s), new HashMap<>());
    }

    int height(int r, int s) {
        int fault = faultOfAdmitted(r, s);
        if (fault != 0) {
            return fault;
        }
        int most = NONE;
        for (int steps = 0; steps <= 5; steps++) {
            if (chainsOf(at(r), at(s), steps, new HashMap<>()) > 0) {
                most = steps;
            }
        }
        return most;
    }

    private int rank(int place) {
        return now.n - blocksAt(place).size();
    }

    private static long power(int x, int exponent) {
        return exponent == 0 ? 1 : x * power(x, exponent - 1);
    }

    long rankSum(int r, int s, int x) {
        if (x < -9 || x > 9) {
            return -1000000001L;
        }
        if (fault(r, s) != 0) {
            return -1000000000L + fault(r, s);
        }
        long sum = 0;
        for (int z : between(at(r), at(s))) {
            sum += power(x, rank(z) - rank(at(r)));
        }
        return sum;
    }

    long characteristic(int r, int s, int x) {
        if (x < -9 || x > 9) {
            return -1000000001L;
        }
        if (fault(r, s) != 0) {
            return -1000000000L + fault(r, s);
        }
        if (notAdmitted(r)) {
            return -1000000003L;
        }
        long sum = 0;
        Map<Integer, Long> known = new HashMap<>();
        for (int z : between(at(r), at(s))) {
            sum += moebiusOf(at(r), z, known) * power(x, rank(at(s)) - rank(z));
        }
        return sum;
    }

    // ---- distances

    /** Goes breadth first through all partitions that single moves lead to. */
    int transfers(int r, int s) {
        if (fault(r, s) != 0) {
            return fault(r, s);
        }
        Map<Integer, Integer> distance = new HashMap<>();
        ArrayDeque<Integer> queue = new ArrayDeque<>();
        distance.put(at(r), 0);
        queue.add(at(r));
        while (!distance.containsKey(at(s))) {
            int place = queue.remove();
            for (int e = 0; e < now.n; e++) {
                for (int label = 0; label <= now.n; label++) {
                    int[] labels = lattice().growth.get(place).clone();
                    labels[e] = label;
                    int other = placeOf(labels);
                    if (distance.putIfAbsent(other, distance.get(place) + 1) == null) {
                        queue.add(other);
                    }
                }
            }
        }
        return distance.get(at(s));
    }

    private int disagreementsOf(int a, int b) {
        int sum = 0;
        for (int i = 0; i < now.n; i++) {
            for (int j = i + 1; j < now.n; j++) {
                sum += share(a, i, j) != share(b, i, j) ? 1 : 0;
            }
        }
        return sum;
    }

    int disagreements(int r, int s) {
        return fault(r, s) != 0 ? fault(r, s) : disagreementsOf(at(r), at(s));
    }

    int median(int set, int t) {
        if (set < 1 || set > 255 || noRegister(t)) {
            return BAD;
        }
        List<Integer> members = new ArrayList<>();
        for (int r = 0; r < 8; r++) {
            if ((set & 1 << r) != 0) {
                members.add(r);
            }
        }
        if (members.stream().anyMatch(this::isEmpty)) {
            return EMPTY;
        }
        if (admitted().isEmpty()) {
            return STATE;
        }
        int smallest = Integer.MAX_VALUE;
        int chosen = 0;
        for (int z : admitted()) {
            int sum = members.stream().mapToInt(r -> disagreementsOf(at(r), z)).sum();
            if (sum < smallest) {
                smallest = sum;
                chosen = z;
            }
        }
        go(t, chosen);
        return smallest;
    }

    // ---- history

    int undo() {
        if (remembered.isEmpty()) {
            return STATE;
        }
        now = remembered.removeLast();
        admittedNow = null;
        return remembered.size();
    }

    private static int mask(Set<Integer> set) {
        return set.stream().mapToInt(k -> 1 << k).sum();
    }

    int told(int what) {
        switch (what) {
            case 0:
                return now.n;
            case 1:
                return (int) Arrays.stream(now.registers).filter(z -> z != null).count();
            case 2:
                return mask(now.sizes);
            case 3:
                return mask(now.numbers);
            case 4:
                return now.apart.size();
            case 5:
                return now.together.size();
            case 6:
                return now.noncrossing ? 1 : 0;
            case 7:
                return text.length();
            case 8:
                return remembered.size();
            default:
                return BAD;
        }
    }

    long digest() {
        List<Integer> values = new ArrayList<>();
        for (int what = 0; what <= 8; what++) {
            values.add(told(what));
        }
        values.add(count());
        for (int k = 1; k <= 6; k++) {
            values.add(countWith(k));
        }
        for (int r = 0; r < 8; r++) {
            if (isEmpty(r)) {
                values.add(NONE);
            } else {
                values.add(blocks(r));
                for (int label : lattice().growth.get(at(r))) {
                    values.add(label);
                }
                values.addAll(List.of(why(r), where(r), index(r)));
            }
        }
        long h = 18446;
        for (int v : values) {
            h = 31 * h + v;
        }
        return h;
    }
}
