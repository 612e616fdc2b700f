import java.io.IOException;
import java.lang.management.ManagementFactory;
import java.lang.reflect.Constructor;
import java.lang.reflect.Field;
import java.lang.reflect.Method;
import java.lang.reflect.Modifier;
import java.nio.file.Files;
import java.nio.file.Path;
import java.util.Arrays;
import java.util.HashSet;
import java.util.Random;
import java.util.Set;
import java.util.regex.Matcher;
import java.util.regex.Pattern;

/** The public face, the rules of the language as far as they can be seen, and the room that a run needs. */
public final class FaceTest {
    public static void main(String[] args) throws IOException {
        face();
        constants();
        classesInside();
        words(code());
        methodsStayShort(code());
        room();
        anyArguments();
        Due.finish();
    }

    private static void holds(String what, boolean holds) {
        Due.due(what, holds ? 1 : 0, 1);
    }

    private static void face() {
        Class<?> type = JoineryFloor.class;
        holds("public final", Modifier.isPublic(type.getModifiers()) && Modifier.isFinal(type.getModifiers()));
        holds("no package", type.getPackageName().isEmpty());
        Constructor<?>[] made = type.getDeclaredConstructors();
        holds("one public constructor without arguments", made.length == 1 && made[0].getParameterCount() == 0
            && Modifier.isPublic(made[0].getModifiers()));
        Set<String> due = new HashSet<>();
        for (int k = 0; k < Calls.NAMES.length; k++) due.add(Calls.NAMES[k] + Calls.ARGUMENTS[k]);
        for (Method m : type.getDeclaredMethods()) {
            if (Modifier.isPrivate(m.getModifiers())) {
                holds("private " + m.getName() + " bears no public name", Calls.numberOf(m.getName()) < 0);
                continue;
            }
            holds(m.getName() + " is of the face", due.remove(m.getName() + m.getParameterCount()));
            holds(m.getName() + " is public", Modifier.isPublic(m.getModifiers()));
            holds(m.getName() + " is an object's", !Modifier.isStatic(m.getModifiers()));
            holds(m.getName() + " answers an int", m.getReturnType() == int.class);
            for (Class<?> p : m.getParameterTypes()) holds(m.getName() + " takes ints", p == int.class);
        }
        holds("all of the face: " + due, due.isEmpty());
    }

    private static void constants() {
        Due.due("NONE", JoineryFloor.NONE, -1);
        Due.due("UNKNOWN", JoineryFloor.UNKNOWN, -100001);
        Due.due("OUTSIDE", JoineryFloor.OUTSIDE, -100002);
        Due.due("NOT", JoineryFloor.NOT, -100003);
        Due.due("FULL", JoineryFloor.FULL, -100004);
        int open = 0;
        for (Field f : JoineryFloor.class.getDeclaredFields()) {
            if (!Modifier.isPrivate(f.getModifiers())) open++;
            if (Modifier.isStatic(f.getModifiers())) {
                holds(f.getName() + " is a constant", Modifier.isFinal(f.getModifiers()) && f.getType() == int.class);
            }
        }
        Due.due("public fields", open, 5);
    }

    private static void classesInside() {
        Class<?>[] inside = JoineryFloor.class.getDeclaredClasses();
        holds("some twelve classes at most", inside.length <= 12);
        for (Class<?> c : inside) {
            String name = c.getSimpleName();
            holds(name + " is static", Modifier.isStatic(c.getModifiers()));
            holds(name + " is not public", !Modifier.isPublic(c.getModifiers()));
            holds(name + " is not protected", !Modifier.isProtected(c.getModifiers()));
            int fields = 0;
            for (Field f : c.getDeclaredFields()) {
                boolean constant = Modifier.isStatic(f.getModifiers());
                if (constant) holds(name + "." + f.getName() + " is final", Modifier.isFinal(f.getModifiers()));
                else fields++;
            }
            holds(name + " has some twenty fields at most", fields <= 20);
            for (Method m : c.getDeclaredMethods()) {
                boolean apart = !Modifier.isPrivate(m.getModifiers()) || Calls.numberOf(m.getName()) < 0;
                holds(name + "." + m.getName() + " bears no public name", apart);
                holds(name + "." + m.getName() + " takes seven at most", m.getParameterCount() <= 7);
            }
        }
    }

    /** The source without its comments. */
    private static String code() throws IOException {
        String source = Files.readString(Path.of("src/main/java/JoineryFloor.java"));
        return source.replaceAll("(?s)/\\*.*?\\*/", "").replaceAll("//[^\n]*", "");
    }

    private static void words(String code) {
        String[] refused = {"throw", "throws", "try", "catch", "finally", "synchronized", "assert", "package", "native",
            "volatile", "transient", "Object", "Thread", "Random", "\\w+Exact"};
        for (String word : refused) holds("no " + word, !Pattern.compile("\\b" + word + "\\b").matcher(code).find());
        holds("no lambda", !code.replaceAll("(case [^\n]*|default) ->", "").contains("->"));
        holds("no method reference", !code.contains("::"));
        dueOnly(code, "import ([\\w.]+);", Set.of("java.util.Arrays", "java.util.ArrayList", "java.util.List",
            "java.util.Iterator"));
        dueOnly(code, "\\b((?:System|Arrays|List)\\.\\w+)", Set.of("System.arraycopy", "Arrays.copyOf",
            "Arrays.copyOfRange", "Arrays.fill", "List.of"));
        Set<String> made = new HashSet<>(Set.of("int", "long", "short", "byte", "char", "boolean", "double", "float",
            "String", "StringBuilder", "ArrayList"));
        for (Class<?> c : JoineryFloor.class.getDeclaredClasses()) made.add(c.getSimpleName());
        dueOnly(code, "\\bnew (\\w+)", made);
    }

    private static void dueOnly(String code, String pattern, Set<String> listed) {
        Matcher m = Pattern.compile(pattern).matcher(code);
        while (m.find()) holds(m.group(1) + " is listed", listed.contains(m.group(1)));
    }

    private static void methodsStayShort(String code) {
        int lines = 0;
        int longest = 0;
        for (String line : code.split("\n")) {
            boolean opens = line.matches("^ {4}( {4})?[a-z].*\\) \\{$");
            lines = opens ? 1 : lines + 1;
            if (line.matches("^ {4}( {4})?}$")) longest = Math.max(longest, lines < 200 ? lines : 0);
        }
        holds("methods of some sixty lines at most: " + longest, longest <= 60);
    }

    /** All calls of a run live in one room of 7.3 million fields and elements, of four bytes at least. */
    private static void room() {
        long first = bytes();
        JoineryFloor x = new JoineryFloor();
        for (int m = 0; m < 4; m++) x.machine(0, 0);
        for (int p = 0; p < 8; p++) x.piece(0);
        for (int s = 0; s < 32; s++) x.step(s % 8, (s + s / 8) % 4, 1 + s * 7 % 19);
        x.sheet(0, 0, 40);
        for (int k = 0; k < 50; k++) {
            x.rule(k % 3);
            x.better(50);
            x.windows(x.end());
            x.bound(k % 4, k % 2);
            x.least(100);
            x.fail(k % 4, k, k);
            x.copy(0, 0, 0, 1, 20);
            x.row(k);
        }
        long used = bytes() - first;
        holds("the room of the dearest calls: " + used, used < 4 * 7_300_000);
    }

    private static long bytes() {
        com.sun.management.ThreadMXBean bean = (com.sun.management.ThreadMXBean) ManagementFactory.getThreadMXBean();
        return bean.getCurrentThreadAllocatedBytes();
    }

    /** Any call with any arguments in any state answers; what it answers is asked elsewhere. */
    private static void anyArguments() {
        int[] edges = {Integer.MIN_VALUE, Integer.MIN_VALUE + 1, -100001, -2, -1, 0, 1, 2, 3, 4, 5, 6, 7, 8, 9, 11, 12,
            31, 32, 33, 39, 40, 41, 50, 51, 100, 101, 1000, 1001, 10000, 100000, Integer.MAX_VALUE - 1,
            Integer.MAX_VALUE};
        Random random = new Random(11);
        Method[] methods = JoineryFloor.class.getDeclaredMethods();
        Arrays.sort(methods, (a, b) -> a.getName().compareTo(b.getName()));
        int thrown = 0;
        for (int run = 0; run < 400; run++) {
            JoineryFloor x = new JoineryFloor();
            for (int k = 0; k < 512; k++) {
                Method m = methods[random.nextInt(methods.length)];
                if (!Modifier.isPublic(m.getModifiers())) continue;
                Object[] a = new Object[m.getParameterCount()];
                for (int i = 0; i < a.length; i++) a[i] = edges[random.nextInt(edges.length)];
                try {
                    m.invoke(x, a);
                } catch (ReflectiveOperationException e) {
                    thrown++;
                    System.out.println(m.getName() + Arrays.toString(a) + ": " + e.getCause());
                }
            }
        }
        Due.due("calls that threw", thrown, 0);
    }
}
