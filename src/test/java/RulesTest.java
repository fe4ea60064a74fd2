import com.sun.management.ThreadMXBean;
import java.io.IOException;
import java.lang.management.ManagementFactory;
import java.lang.reflect.Constructor;
import java.lang.reflect.Field;
import java.lang.reflect.Method;
import java.lang.reflect.Modifier;
import java.nio.file.Files;
import java.nio.file.Path;
import java.util.Arrays;
import java.util.Random;
import java.util.Set;
import java.util.TreeSet;
import java.util.regex.Matcher;
import java.util.regex.Pattern;

/** What LANGUAGE.md binds: the face, the words of the source, the room of a run; and that no call throws. */
public final class RulesTest {
    private static final Set<String> FACE = new TreeSet<>(Arrays.asList(
            "int letters(long)", "int blank()", "int fault()", "int town()", "int street(int, int)",
            "int repave(int, int)", "int walker(int, int, int)", "int about(int, int)", "int as(int, int)",
            "int steps(int, int)", "int may(int, int)", "int go(int, int)", "int skip(int)",
            "int fewest(int, int, int)", "int skips(int, int, int)", "int shut(int)", "int round(int, int)",
            "int stones(int, int, int)", "int even(int, int)", "int both(int, int, int)", "int change(int, int)",
            "int print(int, int, int)", "int wipe()", "int who()", "int walk(int, int, int, int)", "int image()",
            "int restore()", "int count(int)", "long digest()"));
    private static int wrong = 0;

    private static void hold(boolean holds, String what) {
        if (!holds) {
            wrong++;
            System.out.println("does not hold: " + what);
        }
    }

    public static void main(String[] args) throws Exception {
        face();
        privateNames();
        source();
        noCallThrows();
        room();
        System.out.println(wrong == 0 ? "all rules are kept" : wrong + " rules are not kept");
        if (wrong != 0) {
            System.exit(1);
        }
    }

    private static String told(Method m) {
        StringBuilder types = new StringBuilder();
        for (Class<?> type : m.getParameterTypes()) {
            types.append(types.length() == 0 ? "" : ", ").append(type.getName());
        }
        return m.getReturnType().getName() + " " + m.getName() + "(" + types + ")";
    }

    private static void face() {
        hold(Modifier.isPublic(FootByGate.class.getModifiers()) && Modifier.isFinal(FootByGate.class.getModifiers()),
                "the class is public and final");
        Set<String> found = new TreeSet<>();
        for (Method m : FootByGate.class.getDeclaredMethods()) {
            if (!Modifier.isPrivate(m.getModifiers())) {
                hold(Modifier.isPublic(m.getModifiers()) && !Modifier.isStatic(m.getModifiers()), told(m) + " is public");
                found.add(told(m));
            }
        }
        hold(found.equals(FACE), "the face is the document's: " + found);
        Set<String> constants = new TreeSet<>();
        for (Field f : FootByGate.class.getDeclaredFields()) {
            if (!Modifier.isPrivate(f.getModifiers())) {
                constants.add(Modifier.toString(f.getModifiers()) + " " + f.getType() + " " + f.getName());
            }
        }
        Set<String> due = new TreeSet<>();
        for (String name : new String[] {"NONE", "UNKNOWN", "OUTSIDE", "STATE", "FULL"}) {
            due.add("public static final int " + name);
        }
        hold(constants.equals(due), "the constants are the document's: " + constants);
        Constructor<?>[] made = FootByGate.class.getDeclaredConstructors();
        hold(made.length == 1 && Modifier.isPublic(made[0].getModifiers()) && made[0].getParameterCount() == 0,
                "one constructor");
    }

    private static void privateNames() {
        Set<String> names = new TreeSet<>();
        for (String method : FACE) {
            names.add(method.substring(method.indexOf(' ') + 1, method.indexOf('(')));
        }
        for (Method m : FootByGate.class.getDeclaredMethods()) {
            hold(Modifier.isPublic(m.getModifiers()) || !names.contains(m.getName()), m.getName() + " is no name of a call");
            hold(m.getParameterCount() <= 7, m.getName() + " takes seven at most");
        }
        for (Class<?> inside : FootByGate.class.getDeclaredClasses()) {
            hold(Modifier.isStatic(inside.getModifiers()), inside + " is static");
            for (Method m : inside.getDeclaredMethods()) {
                hold(!names.contains(m.getName()), inside + ": " + m.getName() + " is no name of a call");
                hold(m.getParameterCount() <= 7, m.getName() + " takes seven at most");
            }
            for (Field f : inside.getDeclaredFields()) {
                hold(!Modifier.isStatic(f.getModifiers()) || Modifier.isFinal(f.getModifiers()), f + " is final");
            }
        }
        hold(FootByGate.class.getDeclaredClasses().length < 12, "twelve classes in all");
    }

    private static void source() throws IOException {
        String text = Files.readString(Path.of("src/main/java/FootByGate.java"));
        String code = text.replaceAll("(?s)/\\*.*?\\*/", "").replaceAll("//[^\n]*", "");
        String[] banned = {"->", "::", "\\btry\\b", "\\bcatch\\b", "\\bfinally\\b", "\\bsynchronized\\b", "\\bassert\\b",
            "\\bthrow\\b", "\\bvar\\b", "\\bpackage\\b", "Exact\\b", "\\bSystem\\.(?!arraycopy)", "\\bObject\\b", "\\bMath\\.r",
            "\\bInteger\\.(?!bitCount)", "\\bArrays\\.(?!fill)", "\\.(equals|hashCode|toString)\\(", "\\[\\]\\[\\]"};
        for (String word : banned) {
            hold(!Pattern.compile(word).matcher(code).find(), "the source is without " + word);
        }
        Matcher imports = Pattern.compile("import ([^;]*);").matcher(code);
        while (imports.find()) {
            hold(imports.group(1).equals("java.util.Arrays"), "no import of " + imports.group(1));
        }
        for (int i = 0; i < text.length(); i++) {
            hold(text.charAt(i) < 127, "signs up to 126 at " + i);
        }
        int length = 0;
        for (String line : text.split("\n")) {
            boolean opens = line.matches(" {4}(?: {4})?(?!private static final class|static final class)\\w.*\\) \\{");
            length = opens ? 1 : length + 1;
            boolean closes = line.equals("    }") || line.equals("        }");
            hold(!closes || length <= 60, "a method of sixty lines at most, not " + length + " up to " + line);
            length = closes ? 0 : length;
        }
    }

    private static void write(FootByGate x, String text) {
        for (int i = 0; i < text.length(); i += 8) {
            String part = text.substring(i, Math.min(text.length(), i + 8));
            long w = 0;
            for (int k = part.length() - 1; k >= 0; k--) {
                w = w << 8 | part.charAt(k);
            }
            x.letters(w);
        }
    }

    private static FootByGate largest() {
        FootByGate x = new FootByGate();
        write(x, "217,130!,320,307,314,316,037,328!,129!,100");
        x.town();
        for (int i = 0; i < 5; i++) {
            x.walker(i, 3, i % 2);
        }
        return x;
    }

    private static void callAll(FootByGate x, Random random, int[] args) throws ReflectiveOperationException {
        for (String told : FACE) {
            for (Method m : FootByGate.class.getDeclaredMethods()) {
                if (Modifier.isPublic(m.getModifiers()) && told(m).equals(told) && !m.getName().equals("blank")) {
                    Object[] given = new Object[m.getParameterCount()];
                    for (int i = 0; i < given.length; i++) {
                        int arg = args[random.nextInt(args.length)];
                        given[i] = m.getParameterTypes()[i] == long.class ? (Object) (long) arg : (Object) arg;
                    }
                    m.invoke(x, given);
                }
            }
        }
    }

    /** An invoked call that throws ends the test. */
    private static void noCallThrows() throws ReflectiveOperationException {
        Random random = new Random(7);
        int[] args = {Integer.MIN_VALUE, -105, -104, -103, -2, -1, 0, 1, 2, 3, 4, 5, 6, 7, 8, 9, 10, 11, 60, 61, 63, 64,
            127, 1023, 1024, 65535, Integer.MAX_VALUE};
        int[] small = {0, 1, 2, 3, 4, 5, 6};
        for (int run = 0; run < 200; run++) {
            FootByGate x = run % 2 == 0 ? new FootByGate() : largest();
            for (int i = 0; i < 6; i++) {
                callAll(x, random, random.nextBoolean() ? args : small);
            }
        }
    }

    private static long allocated() {
        ThreadMXBean bean = (ThreadMXBean) ManagementFactory.getThreadMXBean();
        return bean.getThreadAllocatedBytes(Thread.currentThread().getId());
    }

    /** The room holds 7.3 million elements, so that some millions of bytes in a run are far below it. */
    private static void room() {
        largest().both(0, 1, 6);
        long before = allocated();
        FootByGate x = largest();
        long made = allocated() - before;
        hold(made < 64_000, "a new object takes little room, not " + made);
        long sum = 0;
        before = allocated();
        for (int i = 0; i < 80; i++) {
            sum += x.digest() + x.both(i % 5, (i + 1) % 5, 6) + x.change(i % 10, i % 9) + x.stones(i % 5, 6, 0)
                    + x.round(i % 5, 0) + x.walk(i % 5, 60, i, 0);
        }
        long taken = allocated() - before;
        hold(taken < 100_000, "calls make nothing but the rows of both(), not " + taken + " bytes, " + sum);
    }
}
