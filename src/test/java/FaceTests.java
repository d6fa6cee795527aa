import java.io.IOException;
import java.lang.reflect.Constructor;
import java.lang.reflect.Field;
import java.lang.reflect.Method;
import java.lang.reflect.Modifier;
import java.nio.file.Files;
import java.nio.file.Path;
import java.util.ArrayList;
import java.util.Arrays;
import java.util.List;
import java.util.Set;
import java.util.TreeSet;
import java.util.stream.Collectors;

/** The face is the document's, its calls make nothing and answer any arguments, and the source keeps to LANGUAGE.md. */
public final class FaceTests {
    private static final String SOURCE = "src/main/java/LinesOfFragments.java";
    private static final int[] STRANGE = {Integer.MIN_VALUE, -100, -2, -1, 0, 1, 2, 5, 7, 8, 12, 13, 16, 20, 21, 60,
        61, 99, 100, 255, 256, Integer.MAX_VALUE};

    private static int wrong;

    public static void main(String[] args) throws Exception {
        face(Files.readString(Path.of("../shared/DOC.md")));
        strangeArguments();
        room();
        source(Files.readString(Path.of(SOURCE)));
        System.out.println(wrong == 0 ? "the face is as it must be" : wrong + " faults of the face");
        if (wrong != 0) {
            System.exit(1);
        }
    }

    private static void check(boolean holds, String otherwise) {
        if (!holds) {
            wrong++;
            System.out.println(otherwise);
        }
    }

    private static String told(Method m) {
        return m.getReturnType() + " " + m.getName() + Arrays.stream(m.getParameterTypes()).map(Class::getName)
            .collect(Collectors.joining(",", "(", ")"));
    }

    private static void face(String document) {
        Set<String> due = new TreeSet<>();
        for (String line : document.split("\n")) {
            String l = line.trim();
            if (l.matches("public (int|long) \\w+\\(.*\\);")) {
                due.add(l.substring(7, l.length() - 1).replaceAll("(int|long) (\\w+)(?=[,)])", "$1").replace(", ", ","));
            }
        }
        check(due.size() == 42, "the document tells " + due.size() + " methods");
        Class<?> face = LinesOfFragments.class;
        Set<String> there = new TreeSet<>();
        for (Method m : face.getDeclaredMethods()) {
            if (Modifier.isPublic(m.getModifiers())) {
                there.add(told(m));
                check(!Modifier.isStatic(m.getModifiers()), m + " is static");
            } else {
                check(Modifier.isPrivate(m.getModifiers()), m + " is neither public nor private");
            }
        }
        check(there.equals(due), "methods " + there + ", due are " + due);
        check(Modifier.isFinal(face.getModifiers()) && face.getSuperclass() == Object.class
            && face.getInterfaces().length == 0, "the class is not a final one by itself");
        Constructor<?>[] makers = face.getDeclaredConstructors();
        check(makers.length == 1 && makers[0].getParameterCount() == 0 && Modifier.isPublic(makers[0].getModifiers()),
            "constructors " + Arrays.toString(makers));
        Set<String> names = Arrays.stream(face.getMethods()).map(Method::getName).collect(Collectors.toSet());
        check(privateNames(face).stream().noneMatch(names::contains), "a private method has a public one's name");
        for (Field f : face.getDeclaredFields()) {
            check(Modifier.isPrivate(f.getModifiers()), f + " is not private");
        }
        check(face.getDeclaredClasses().length <= 11, "too many classes");
        for (Class<?> inside : face.getDeclaredClasses()) {
            inside(inside, names);
        }
        staticFields(face);
    }

    private static List<String> privateNames(Class<?> c) {
        List<String> names = new ArrayList<>();
        for (Method m : c.getDeclaredMethods()) {
            if (!Modifier.isPublic(m.getModifiers())) {
                names.add(m.getName());
            }
        }
        return names;
    }

    private static void inside(Class<?> inside, Set<String> names) {
        check(Modifier.isStatic(inside.getModifiers()) && !Modifier.isPublic(inside.getModifiers()),
            inside + " is not a private static class");
        check(privateNames(inside).stream().noneMatch(names::contains), inside + " has a public method's name");
        int fields = 0;
        for (Field f : inside.getDeclaredFields()) {
            fields += Modifier.isStatic(f.getModifiers()) ? 0 : 1;
        }
        check(fields <= 20, inside + " has " + fields + " fields");
        staticFields(inside);
    }

    private static void staticFields(Class<?> c) {
        for (Field f : c.getDeclaredFields()) {
            boolean plain = f.getType() == int.class || f.getType() == long.class || f.getType() == int[].class;
            check(!Modifier.isStatic(f.getModifiers()) || Modifier.isFinal(f.getModifiers()) && plain, f + " is static");
        }
    }

    private static LinesOfFragments page() {
        LinesOfFragments x = new LinesOfFragments();
        String text = "waaaaaaaaaaaa;waabbaabb;waab;waaaaaa;wbbb;paa11;pab13;pbb11;l24;g331;t40;";
        for (int round = 0; round < 3; round++) {
            for (char c : text.toCharArray()) {
                x.letter(c);
            }
            x.sheet();
        }
        return x;
    }

    /** Every call with every combination of strange arguments, on an empty object and on a full one. */
    private static void strangeArguments() throws Exception {
        for (Method m : LinesOfFragments.class.getDeclaredMethods()) {
            if (!Modifier.isPublic(m.getModifiers())) {
                continue;
            }
            int many = m.getParameterCount();
            int ways = many == 0 ? 1 : many == 1 ? STRANGE.length : 2000;
            LinesOfFragments empty = new LinesOfFragments();
            LinesOfFragments full = page();
            for (int way = 0; way < ways; way++) {
                if (way % 200 == 199) {
                    // an object is used for 512 calls at most
                    empty = new LinesOfFragments();
                    full = page();
                }
                Object[] arguments = new Object[many];
                int rest = way * (many > 1 ? 7919 : 1);
                for (int i = 0; i < many; i++) {
                    arguments[i] = STRANGE[rest % STRANGE.length];
                    rest = rest / STRANGE.length + (many > 2 ? 31 * i : 0);
                }
                try {
                    m.invoke(empty, arguments);
                    m.invoke(full, arguments);
                } catch (java.lang.reflect.InvocationTargetException thrown) {
                    check(false, m.getName() + Arrays.toString(arguments) + " throws " + thrown.getCause());
                }
            }
        }
    }

    private static final com.sun.management.ThreadMXBean MADE =
        (com.sun.management.ThreadMXBean) java.lang.management.ManagementFactory.getThreadMXBean();

    private static long made() {
        return MADE.getThreadAllocatedBytes(Thread.currentThread().getId());
    }

    private static long all(LinesOfFragments x) {
        long sum = x.letter('w') + x.letter('a') + x.letter(';') + x.sheet() + x.sheet() + x.widens(0, 4);
        sum += x.adds(0, 1, 2) + x.forces(3) + x.drops(3) + x.patterns(0, 1, 1, 5) + x.line(25) + x.glue(3, 2, 1);
        sum += x.tolerance(40) + x.hyphen(4) + x.widow(4) + x.manner(1) + x.kind(1, 2) + x.back() + x.word(0, 4);
        sum += x.spelt(0, 0) + x.values(0, 1) + x.pattern(0, 3) + x.lines(3) + x.lineOf(0, 3) + x.ratio(0);
        sum += x.badness(0) + x.demerits(0) + x.total(0) + x.total(7) + x.firstFit() + x.with(40) + x.narrowest(9);
        sum += x.without(0, 1) + x.worst() + x.manners() + x.two(24, 34) + x.lost(9, 3, 0) + x.mean(1) + x.row(4);
        sum += x.whatIs(0) + x.whatIs(1) + x.judge() + x.clear() + x.lots(20, 7, 0) + x.image() + x.on() + x.count(2);
        return sum;
    }

    /** All objects and arrays are made by the constructor, few enough for many objects in one room. */
    private static void room() {
        LinesOfFragments x = page();
        long calls = Long.MAX_VALUE;
        long maker = Long.MAX_VALUE;
        // the machine itself makes something at first: the least of some rounds is the class's own
        for (int round = 0; round < 6; round++) {
            long before = made();
            all(x);
            long between = made();
            new LinesOfFragments();
            calls = Math.min(calls, between - before);
            maker = Math.min(maker, made() - between);
        }
        check(calls == 0, "the calls made " + calls + " bytes");
        check(maker < 30000, "a new object made " + maker + " bytes");
    }

    private static void source(String source) throws IOException {
        String code = source.replaceAll("(?s)/\\*.*?\\*/", "").replaceAll("//[^\n]*", "");
        String[] ruledOut = {"->", "::", "\\bthrow\\b", "\\btry\\b", "\\bcatch\\b", "Exact\\b", "\\bassert\\b",
            "\\bsynchronized\\b", "\\bpackage\\b", "\\binstanceof\\b", "\\bFloat\\.", "\\bDouble\\.", "\\bdouble\\b",
            "\\bSystem\\.(?!arraycopy)", "\\bThread\\b", "import (?!java\\.util\\.Arrays;)", "\\bMath\\.(?!min|max)",
            "\\bInteger\\.(?!bitCount)", "\\bArrays\\.(?!fill)", "static final float", "while \\(true\\)",
            "static (?!final|int|long|boolean|float|void|class)"};
        for (String pattern : ruledOut) {
            check(!java.util.regex.Pattern.compile(pattern).matcher(code).find(), "the source has " + pattern);
        }
        check(source.chars().allMatch(c -> c == '\n' || c >= 32 && c < 127), "the source has strange signs");
        int start = -1;
        String[] lines = source.split("\n");
        for (int i = 0; i < lines.length; i++) {
            if (lines[i].matches(" {4}( {4})?(public|private|static|[a-z]\\w*)[^;=]*\\) \\{")) {
                start = i;
            }
            if (start >= 0 && lines[i].matches(" {4}( {4})?\\}")) {
                check(i - start < 60, "a long method at line " + (start + 1));
                start = -1;
            }
        }
    }
}
