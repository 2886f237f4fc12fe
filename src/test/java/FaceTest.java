import java.io.IOException;
import java.lang.management.ManagementFactory;
import java.lang.reflect.Constructor;
import java.lang.reflect.Field;
import java.lang.reflect.Method;
import java.lang.reflect.Modifier;
import java.nio.file.Files;
import java.nio.file.Path;
import java.util.ArrayList;
import java.util.List;
import java.util.Set;
import java.util.TreeSet;
import java.util.regex.Matcher;
import java.util.regex.Pattern;

/** The public face, the constants, and those rules of LANGUAGE.md that a glance at the file can hold fast. */
final class FaceTest {
    private static final Checks CHECKS = new Checks();
    private static final Path DOCUMENT = Path.of("../shared/DOC.md");
    private static final Path SOURCE = Path.of("src/main/java/ShareHouse.java");
    private static final List<String> FORBIDDEN = List.of("\\bthrow\\b", "\\btry\\b", "\\bcatch\\b",
            "\\bsynchronized\\b", "\\bassert\\b", "->", "::", "\\w+Exact\\b", "\\bSystem\\.(?!arraycopy)", "^package\\b",
            "\\bstatic\\s*\\{", "^import (?!java\\.util\\.Arrays;)", "[^\\x00-\\x7f]");
    private static final Set<String> LIBRARY =
            Set.of("Math.max", "Math.min", "Integer.bitCount", "Arrays.fill", "System.arraycopy");

    private FaceTest() {
    }

    public static void main(String[] args) throws IOException {
        constants();
        face();
        noNameTwice();
        fields();
        source();
        library();
        lengths();
        room();
        CHECKS.end("FaceTest");
    }

    private static void constants() {
        CHECKS.due("NUMBER", ShareHouse.NUMBER, -1);
        CHECKS.due("FULL", ShareHouse.FULL, -2);
        CHECKS.due("NONE", ShareHouse.NONE, -3);
        CHECKS.due("STATE", ShareHouse.STATE, -4);
        CHECKS.due("LATE", ShareHouse.LATE, -5);
        CHECKS.due("FAULT", ShareHouse.FAULT, -100);
        CHECKS.due("NOTHING", ShareHouse.NOTHING, -1000000000);
    }

    private static void face() throws IOException {
        TreeSet<String> told = new TreeSet<>();
        Matcher line = Pattern.compile("^    public (?:static final )?(.*);$", Pattern.MULTILINE)
                .matcher(Files.readString(DOCUMENT));
        while (line.find()) {
            told.add(line.group(1).replaceAll(" = .*", "").replaceAll("(int|long|boolean) \\w+(?=[,)])", "$1"));
        }
        TreeSet<String> seen = new TreeSet<>();
        for (Field f : ShareHouse.class.getDeclaredFields()) {
            if (!Modifier.isPrivate(f.getModifiers())) {
                seen.add(f.getType() + " " + f.getName());
                CHECKS.due(f + " is public static final", f.getModifiers(), 25);
            }
        }
        for (Method m : ShareHouse.class.getDeclaredMethods()) {
            if (!Modifier.isPrivate(m.getModifiers())) {
                seen.add(m.getReturnType() + " " + m.getName() + types(m.getParameterTypes()));
                CHECKS.due(m + " is public", m.getModifiers(), 1);
            }
        }
        for (Constructor<?> c : ShareHouse.class.getDeclaredConstructors()) {
            seen.add("ShareHouse" + types(c.getParameterTypes()));
        }
        CHECKS.due("how much the document tells", told.size(), 47);
        CHECKS.due("face " + seen + " as told " + told, seen.equals(told) ? 1 : 0, 1);
        CHECKS.due("the class is public and final", ShareHouse.class.getModifiers(), 17);
    }

    private static String types(Class<?>[] types) {
        List<String> names = new ArrayList<>();
        for (Class<?> t : types) {
            names.add(t.getName());
        }
        return "(" + String.join(", ", names) + ")";
    }

    private static void noNameTwice() {
        TreeSet<String> names = new TreeSet<>();
        for (Method m : ShareHouse.class.getDeclaredMethods()) {
            if (Modifier.isPublic(m.getModifiers())) {
                names.add(m.getName());
            }
        }
        List<Class<?>> classes = new ArrayList<>(List.of(ShareHouse.class.getDeclaredClasses()));
        CHECKS.due("classes", classes.size() < 12 ? 1 : 0, 1);
        classes.add(ShareHouse.class);
        for (Class<?> c : classes) {
            CHECKS.due(c + " is static", c == ShareHouse.class || Modifier.isStatic(c.getModifiers()) ? 1 : 0, 1);
            for (Method m : c.getDeclaredMethods()) {
                boolean isFace = c == ShareHouse.class && Modifier.isPublic(m.getModifiers());
                CHECKS.due(m + " has a name of its own", !isFace && names.contains(m.getName()) ? 1 : 0, 0);
                CHECKS.due(m + " has seven parameters at most", m.getParameterCount() <= 7 ? 1 : 0, 1);
            }
        }
    }

    /** Rules 5 and 11: what is static is a constant, and a class has some twenty fields. */
    private static void fields() {
        List<Class<?>> classes = new ArrayList<>(List.of(ShareHouse.class.getDeclaredClasses()));
        classes.add(ShareHouse.class);
        for (Class<?> c : classes) {
            int many = 0;
            for (Field f : c.getDeclaredFields()) {
                boolean isStatic = Modifier.isStatic(f.getModifiers());
                many += isStatic ? 0 : 1;
                CHECKS.due(f + " is final", isStatic && !Modifier.isFinal(f.getModifiers()) ? 1 : 0, 0);
            }
            CHECKS.due(c + " has twenty fields at most: " + many, many <= 20 ? 1 : 0, 1);
        }
    }

    /** Rule 11: a method has some sixty lines. */
    private static void lengths() throws IOException {
        List<String> lines = Files.readAllLines(SOURCE);
        int methods = 0;
        for (int i = 0; i < lines.size(); i++) {
            Matcher head = Pattern.compile("^( {4}| {8})(?!if|for|while|switch)\\w[^=]*\\) \\{$").matcher(lines.get(i));
            if (head.find()) {
                int end = i + 1;
                while (end < lines.size() && !lines.get(end).equals(head.group(1) + "}")) {
                    end++;
                }
                methods++;
                CHECKS.due(lines.get(i) + " has sixty lines at most", end - i < 60 ? 1 : 0, 1);
            }
        }
        CHECKS.due("methods are found", methods > 100 ? 1 : 0, 1);
    }

    private static String code() throws IOException {
        return Files.readString(SOURCE).replaceAll("(?s)/\\*.*?\\*/", "").replaceAll("//.*", "");
    }

    /** Rule 4: of the library's static functions only these few, which it lists, are called. */
    private static void library() throws IOException {
        Matcher m = Pattern.compile("\\b([A-Z][a-z]\\w*\\.[a-z]\\w*)\\(").matcher(code());
        int calls = 0;
        while (m.find()) {
            calls++;
            CHECKS.due(m.group(1) + " is of the library told", LIBRARY.contains(m.group(1)) ? 1 : 0, 1);
        }
        CHECKS.due("calls of the library are found", calls > 10 ? 1 : 0, 1);
    }

    private static void source() throws IOException {
        String text = code();
        for (String pattern : FORBIDDEN) {
            Matcher m = Pattern.compile(pattern, Pattern.MULTILINE).matcher(text);
            CHECKS.due("the source has " + pattern, m.find() ? 1 : 0, 0);
        }
    }

    /** All calls of one run live in one room, so calls make nothing anew: only the constructor does. */
    private static void room() {
        com.sun.management.ThreadMXBean threads =
                (com.sun.management.ThreadMXBean) ManagementFactory.getThreadMXBean();
        if (!threads.isThreadAllocatedMemorySupported()) {
            return;
        }
        dearCalls(new ShareHouse());
        ShareHouse x = new ShareHouse();
        long before = threads.getCurrentThreadAllocatedBytes();
        long empty = threads.getCurrentThreadAllocatedBytes() - before;
        before = threads.getCurrentThreadAllocatedBytes();
        dearCalls(x);
        long made = threads.getCurrentThreadAllocatedBytes() - before - empty;
        CHECKS.due("bytes made by calls: " + made, made < 20000 ? 1 : 0, 1);
    }

    private static void dearCalls(ShareHouse x) {
        for (int i = 0; i < 8; i++) {
            x.flat(i, 10 + i, false);
            x.feed(0x73796170206c6c61L, 8);
            x.feed(0x3b6165726120L, 6);
            x.lease(i);
            x.sell(i, i, 0);
        }
        for (int i = 0; i < 7; i++) {
            x.piece(2, 1, 0);
        }
        for (int i = 0; i < 20; i++) {
            x.cost(0, 0, 100);
        }
        for (int i = 0; i < 80; i++) {
            x.worst(7);
            x.asked(0, 0);
            x.keep();
            x.back();
            x.buyers();
        }
    }
}
