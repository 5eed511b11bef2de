import java.io.IOException;
import java.lang.management.ManagementFactory;
import java.lang.reflect.Array;
import java.lang.reflect.Constructor;
import java.lang.reflect.Field;
import java.lang.reflect.Member;
import java.lang.reflect.Method;
import java.lang.reflect.Modifier;
import java.nio.charset.StandardCharsets;
import java.nio.file.Files;
import java.nio.file.Path;
import java.util.ArrayDeque;
import java.util.Arrays;
import java.util.Collections;
import java.util.IdentityHashMap;
import java.util.List;
import java.util.Set;
import java.util.TreeSet;
import java.util.regex.Matcher;
import java.util.regex.Pattern;

/** The document's face, and those rules of the language that a program can look at. Run in the project's folder. */
public final class FormTest {
    private static final Path SOURCE = Path.of("src/main/java/MappingTexts.java");
    private static final String FACE = "public MappingTexts() | public static final int BAD | public static final int FULL | public static final int NO"
        + " | public int difference(int, int, int, int) | public int differences(int, int) | public int drop() | public int feed(int, long)"
        + " | public int field(int, int, int) | public int find(int) | public int grow(int, int) | public int leaf(int, int)"
        + " | public int letter(int, int, int) | public int out(int) | public int place() | public int print(int) | public int read()"
        + " | public int rule(int, int) | public int take() | public int told(int, int)";
    private static final String[] FORBIDDEN = {"throw", "throws", "try", "catch", "finally", "synchronized", "assert", "import", "package", "native",
        "hashCode", "equals", "toString", "Object", "Exact", "volatile", "transient", "Random", "Thread", "nanoTime", "currentTimeMillis"};

    public static void main(String[] args) throws IOException, ReflectiveOperationException {
        face();
        names();
        source(bare(Files.readString(SOURCE, StandardCharsets.UTF_8)));
        room();
        allocation();
        Checks.end();
    }

    private static void face() {
        Class<?> face = MappingTexts.class;
        Checks.same("the class", Modifier.toString(face.getModifiers()), "public final");
        Set<String> seen = new TreeSet<>();
        for (Constructor<?> c : face.getDeclaredConstructors()) {
            seen.add(described(c, "MappingTexts" + parameters(c.getParameterTypes())));
        }
        for (Field f : face.getDeclaredFields()) {
            seen.add(described(f, f.getType().getSimpleName() + " " + f.getName()));
        }
        for (Method m : face.getDeclaredMethods()) {
            seen.add(described(m, m.getReturnType().getSimpleName() + " " + m.getName() + parameters(m.getParameterTypes())));
        }
        seen.removeIf(line -> line.startsWith("private "));
        Checks.same("the face", String.join(" | ", seen), String.join(" | ", new TreeSet<>(Arrays.asList(FACE.split(" \\| ")))));
        Checks.due("BAD", MappingTexts.BAD, -1);
        Checks.due("NO", MappingTexts.NO, -2);
        Checks.due("FULL", MappingTexts.FULL, -3);
    }

    private static String described(Member member, String rest) {
        return (Modifier.toString(member.getModifiers()) + " " + rest).trim();
    }

    private static String parameters(Class<?>[] types) {
        return "(" + String.join(", ", Arrays.stream(types).map(Class::getSimpleName).toList()) + ")";
    }

    private static void names() {
        Set<String> publicNames = new TreeSet<>();
        for (Method m : MappingTexts.class.getMethods()) {
            publicNames.add(m.getName());
        }
        Class<?>[] inside = MappingTexts.class.getDeclaredClasses();
        Checks.due("at most twelve classes", inside.length < 12 ? 1 : 0, 1);
        for (Class<?> c : inside) {
            Checks.due(c + " is static", Modifier.isStatic(c.getModifiers()) ? 1 : 0, 1);
            Checks.due(c + " is not public", Modifier.isPublic(c.getModifiers()) ? 1 : 0, 0);
            for (Method m : c.getDeclaredMethods()) {
                Checks.due(m + " bears a public name", publicNames.contains(m.getName()) ? 1 : 0, 0);
                Checks.due(m + " has few parameters", m.getParameterCount() <= 7 ? 1 : 0, 1);
            }
            long fields = Arrays.stream(c.getDeclaredFields()).filter(f -> !Modifier.isStatic(f.getModifiers())).count();
            Checks.due(c + " has few fields", fields <= 20 ? 1 : 0, 1);
        }
        for (Method m : MappingTexts.class.getDeclaredMethods()) {
            boolean twice = Modifier.isPrivate(m.getModifiers()) && publicNames.contains(m.getName());
            Checks.due(m + " bears a public name", twice ? 1 : 0, 0);
        }
    }

    /** The source without comments, and with every text and character in it made empty. */
    private static String bare(String source) {
        return source.replaceAll("(?s)/\\*.*?\\*/", "").replaceAll("//[^\n]*", "")
            .replaceAll("\"(\\\\.|[^\"\\\\])*\"", "\"\"").replaceAll("'(\\\\.|[^'\\\\])'", "''");
    }

    private static void source(String bare) {
        for (String word : FORBIDDEN) {
            Checks.due("the word " + word, Pattern.compile("\\b" + word + "\\b").matcher(bare).find() ? 1 : 0, 0);
        }
        Checks.due("lambdas", bare.contains("->") || bare.contains("::") ? 1 : 0, 0);
        Checks.due("System", count(bare, "\\bSystem\\b"), count(bare, "\\bSystem\\.arraycopy\\("));
        Checks.due("joining texts by +", count(bare, "\"\"\\s*\\+|\\+\\s*\"\""), 0);
        int longest = 0;
        int from = -1;
        String[] lines = bare.split("\n", -1);
        for (int i = 0; i < lines.length; i++) {
            if (lines[i].matches(" {4}( {4})?[a-zA-Z].*\\) \\{")) {
                from = i;
            }
            if (from >= 0 && lines[i].matches(" {4}( {4})?\\}")) {
                longest = Math.max(longest, i - from + 1);
                from = -1;
            }
        }
        Checks.due("the longest method has " + longest + " lines", longest > 10 && longest <= 60 ? 1 : 0, 1);
    }

    private static int count(String text, String pattern) {
        Matcher m = Pattern.compile(pattern).matcher(text);
        int count = 0;
        while (m.find()) {
            count++;
        }
        return count;
    }

    /** A run has room for some 600,000 objects and 7.3 million fields and elements. */
    private static void room() throws ReflectiveOperationException {
        long[] made = roomOf(new MappingTexts());
        System.out.println("an object takes " + made[0] + " objects, " + made[1] + " fields and elements");
        Checks.due("objects", made[0] < 6000 ? 1 : 0, 1);
        Checks.due("fields and elements", made[1] < 73000 ? 1 : 0, 1);
    }

    private static long[] roomOf(Object root) throws ReflectiveOperationException {
        Set<Object> seen = Collections.newSetFromMap(new IdentityHashMap<>());
        ArrayDeque<Object> left = new ArrayDeque<>(List.of(root));
        long size = 0;
        while (!left.isEmpty()) {
            Object at = left.pop();
            if (!seen.add(at)) {
                continue;
            }
            if (at.getClass().isArray()) {
                size += Array.getLength(at);
                for (int i = 0; !at.getClass().getComponentType().isPrimitive() && i < Array.getLength(at); i++) {
                    left.push(Array.get(at, i));
                }
                continue;
            }
            for (Field f : at.getClass().getDeclaredFields()) {
                if (!Modifier.isStatic(f.getModifiers())) {
                    size++;
                    f.setAccessible(true);
                    if (!f.getType().isPrimitive() && f.get(at) != null) {
                        left.push(f.get(at));
                    }
                }
            }
        }
        return new long[] {seen.size(), size};
    }

    /** No call makes an object: the thread's own count of bytes stays where it is. */
    private static void allocation() {
        calls(new MappingTexts());
        MappingTexts x = new MappingTexts();
        com.sun.management.ThreadMXBean threads = (com.sun.management.ThreadMXBean) ManagementFactory.getThreadMXBean();
        long self = Thread.currentThread().getId();
        threads.getThreadAllocatedBytes(self);
        long before = threads.getThreadAllocatedBytes(self);
        calls(x);
        long bytes = threads.getThreadAllocatedBytes(self) - before;
        System.out.println("512 calls take " + bytes + " bytes");
        Checks.due("bytes of 512 calls", bytes < 4096 ? 1 : 0, 1);
    }

    private static void calls(MappingTexts x) {
        // "a:word;", "rule *:w", "ord;", then "b" and "c"
        for (int i = 0; i < 32; i++) {
            x.feed(7, 0x3b64726f773a61L);
            x.feed(8, 0x773a2a20656c7572L);
            x.feed(4, 0x3b64726fL);
            x.read();
            x.feed(1, 'b' + i % 2);
            x.grow(0, 0);
            x.feed(1, 'c');
            x.find(0);
            x.feed(1, 'c');
            x.rule(0, 1);
            x.print(1);
            x.take();
            x.read();
            x.difference(0, 1, 0, 0);
            x.field(0, 0, 9);
            x.drop();
        }
    }
}
