import com.sun.management.ThreadMXBean;
import java.lang.management.ManagementFactory;
import java.lang.reflect.Field;
import java.lang.reflect.Method;
import java.lang.reflect.Modifier;
import java.nio.file.Files;
import java.nio.file.Path;
import java.util.ArrayList;
import java.util.Collections;
import java.util.HashSet;
import java.util.List;
import java.util.Set;
import java.util.regex.Pattern;

/** The public face, the rules of ../shared/LANGUAGE.md that can be looked at, and the room. */
final class LanguageTest {
    private static final String[] FACE = {
        "int setSize(int)", "int allowSize(int, boolean)", "int allowNumber(int, boolean)",
        "int apart(int, int, boolean)", "int together(int, int, boolean)",
        "int noncrossing(boolean)", "int type(int)", "int clear()", "int read(int)",
        "int finest(int)", "int coarsest(int)", "int copy(int, int)", "int meet(int, int, int)",
        "int join(int, int, int)", "int unite(int, int, int)", "int isolate(int, int)",
        "int swap(int, int, int)", "int rotate(int)", "int complement(int, int)",
        "int unrank(int, int)", "int next(int)", "int previous(int)", "int draw(int, int)",
        "int blocks(int)", "int blockOf(int, int)", "int block(int, int)", "int typeOf(int)",
        "int crossings(int)", "int index(int)", "int why(int)", "int where(int)", "int count()",
        "int countWith(int)", "int below(int, int)", "int covers(int, boolean)",
        "int bounds(int, int, boolean)", "int bound(int, int, boolean, int)",
        "int interval(int, int)", "long moebius(int, int)", "long chains(int, int, int)",
        "long maximalChains(int, int)", "int height(int, int)", "long rankSum(int, int, int)",
        "long characteristic(int, int, int)", "int transfers(int, int)",
        "int disagreements(int, int)", "int median(int, int)", "int undo()", "int told(int)",
        "long digest()"};
    private static final String[] NOT_IN_THE_SOURCE = {
        "\\bthrows?\\b", "\\btry\\b", "\\bcatch\\b", "\\bsynchronized\\b", "\\bassert\\b", "->",
        "::", "\\bimport\\b", "\\bpackage\\b", "\\bdouble\\b", "\\bfloat\\b", "Exact\\(",
        "\\bequals\\(", "\\bhashCode\\(", "\\btoString\\("};
    /** An object takes some 14 000 bytes with all its rows, and its calls make nothing more. */
    private static final long BYTES_OF_A_RUN = 40_000;

    private LanguageTest() {
    }

    public static void main(String[] args) throws Exception {
        face();
        classesInside();
        source();
        room();
        Due.end();
    }

    private static void face() {
        Class<?> type = PartitionPoset.class;
        Due.holds("the class is public and final", type.getModifiers()
                == (Modifier.PUBLIC | Modifier.FINAL));
        Due.due("public constructors", type.getConstructors().length, 1);
        Due.due("constructors", type.getDeclaredConstructors().length, 1);
        List<String> due = new ArrayList<>(List.of(FACE));
        Set<String> names = new HashSet<>();
        List<String> got = new ArrayList<>();
        for (Method method : type.getDeclaredMethods()) {
            if (!Modifier.isPrivate(method.getModifiers())) {
                Due.holds(method + " is public alone", method.getModifiers() == Modifier.PUBLIC);
                names.add(method.getName());
                String parameters = List.of(method.getParameterTypes()).toString();
                got.add(method.getReturnType() + " " + method.getName() + "("
                        + parameters.substring(1, parameters.length() - 1) + ")");
            }
        }
        Collections.sort(due);
        Collections.sort(got);
        Due.holds("the methods are those of the document: " + got, got.equals(due));
        for (Method method : type.getDeclaredMethods()) {
            Due.holds("no private method has the name of a public one: " + method,
                    Modifier.isPublic(method.getModifiers()) || !names.contains(method.getName()));
        }
        Set<String> constants = Set.of("BAD", "EMPTY", "STATE", "FULL", "NONE");
        for (Field field : type.getDeclaredFields()) {
            int modifiers = field.getModifiers();
            Due.holds("private, or a constant of the document: " + field,
                    constants.contains(field.getName())
                    ? modifiers == (Modifier.PUBLIC | Modifier.STATIC | Modifier.FINAL)
                    : Modifier.isPrivate(modifiers));
            Due.holds("static fields are final: " + field,
                    !Modifier.isStatic(modifiers) || Modifier.isFinal(modifiers));
        }
        long[] values = {PartitionPoset.BAD, PartitionPoset.EMPTY, PartitionPoset.STATE,
            PartitionPoset.FULL, PartitionPoset.NONE};
        long[] dueValues = {-1, -2, -3, -4, -9};
        for (int i = 0; i < values.length; i++) {
            Due.due("constant " + i, values[i], dueValues[i]);
        }
    }

    private static void classesInside() {
        Class<?>[] inside = PartitionPoset.class.getDeclaredClasses();
        Due.holds("some twelve classes at most", inside.length < 12);
        for (Class<?> type : inside) {
            int modifiers = type.getModifiers();
            Due.holds("static and not public: " + type,
                    Modifier.isStatic(modifiers) && !Modifier.isPublic(modifiers));
            Due.holds("some twenty fields at most: " + type, type.getDeclaredFields().length <= 20);
        }
    }

    private static void source() throws Exception {
        String source = Files.readString(Path.of("src/main/java/PartitionPoset.java"));
        String code = source.replaceAll("(?s)/\\*.*?\\*/", "").replaceAll("//[^\n]*", "");
        for (String word : NOT_IN_THE_SOURCE) {
            Due.holds("not in the source: " + word, !Pattern.compile(word).matcher(code).find());
        }
        Due.holds("the signs of the source are 1 to 127", source.chars().allMatch(c -> c < 128));
        Due.holds("one file", Files.list(Path.of("src/main/java")).count() == 1);
    }

    private static void room() {
        ThreadMXBean threads = (ThreadMXBean) ManagementFactory.getThreadMXBean();
        long thread = Thread.currentThread().getId();
        dearRun();
        long before = threads.getThreadAllocatedBytes(thread);
        dearRun();
        long bytes = threads.getThreadAllocatedBytes(thread) - before;
        Due.holds("a run keeps to its room: " + bytes + " bytes", bytes < BYTES_OF_A_RUN);
    }

    /** 512 calls, of all that reckon most. */
    private static void dearRun() {
        PartitionPoset x = Due.ofSize(6);
        x.finest(0);
        x.coarsest(1);
        for (int i = 0; i < 26; i++) {
            x.allowSize(6, true);
            x.join(0, 1, 2);
            x.complement(0, 3);
            x.next(0);
            x.previous(0);
            x.draw(4, i);
            x.covers(1, true);
            x.bounds(0, 1, false);
            x.moebius(0, 1);
            x.chains(0, 1, 5);
            x.maximalChains(0, 1);
            x.height(0, 1);
            x.rankSum(0, 1, 9);
            x.characteristic(0, 1, 9);
            x.transfers(0, 1);
            x.median(31, 5);
            x.setSize(5);
            x.undo();
            x.digest();
        }
    }
}
