import java.io.IOException;
import java.lang.reflect.Field;
import java.lang.reflect.Method;
import java.lang.reflect.Modifier;
import java.nio.file.Files;
import java.nio.file.Path;
import java.util.regex.Matcher;
import java.util.regex.Pattern;

/** README.md tells the class as it is: its example is run row by row, and it names every call and constant. */
public final class ReadmeTest {
    /** A row of the example: a call, and the answer that its comment begins with. */
    private static final Pattern ROW = Pattern.compile("x\\.(\\w+)\\(([^)]*)\\); +// (-?\\d+): .*");
    private static final int FEWEST_ROWS = 20;
    private static int wrong = 0;

    private static void tell(String what) {
        wrong++;
        System.out.println(what);
    }

    public static void main(String[] args) throws IOException, ReflectiveOperationException {
        String text = Files.readString(Path.of("README.md"));
        example(text);
        names(text);
        System.out.println(wrong == 0 ? "the README is as the class is" : wrong + " things in the README are not so");
        if (wrong != 0) {
            System.exit(1);
        }
    }

    private static void example(String text) throws ReflectiveOperationException {
        FootByGate x = new FootByGate();
        int rows = 0;
        for (String line : text.split("\n")) {
            if (line.startsWith("x.")) {
                rows++;
                row(x, line);
            }
        }
        if (rows < FEWEST_ROWS) {
            tell("the example has " + rows + " rows");
        }
    }

    private static void row(FootByGate x, String line) throws ReflectiveOperationException {
        Matcher m = ROW.matcher(line);
        if (!m.matches()) {
            tell("no call with an answer: " + line);
            return;
        }
        String[] told = m.group(2).isEmpty() ? new String[0] : m.group(2).split(", ");
        Method call = callNamed(m.group(1), told.length);
        if (call == null) {
            tell("no such call: " + line);
            return;
        }
        Object[] given = new Object[told.length];
        for (int i = 0; i < told.length; i++) {
            long number = Long.parseLong(told[i].replace("L", ""));
            given[i] = call.getParameterTypes()[i] == long.class ? (Object) number : (Object) Math.toIntExact(number);
        }
        long answer = ((Number) call.invoke(x, given)).longValue();
        if (answer != Long.parseLong(m.group(3))) {
            tell("answered " + answer + ": " + line);
        }
    }

    private static Method callNamed(String name, int parameters) {
        for (Method m : FootByGate.class.getDeclaredMethods()) {
            if (Modifier.isPublic(m.getModifiers()) && m.getName().equals(name) && m.getParameterCount() == parameters) {
                return m;
            }
        }
        return null;
    }

    private static void names(String text) throws ReflectiveOperationException {
        for (Method m : FootByGate.class.getDeclaredMethods()) {
            if (Modifier.isPublic(m.getModifiers()) && !text.contains("`" + m.getName() + "`")) {
                tell("the call is not named: " + m.getName());
            }
        }
        for (Field f : FootByGate.class.getDeclaredFields()) {
            if (Modifier.isPublic(f.getModifiers()) && !text.contains("`" + f.getName() + "` (" + f.getInt(null) + ")")) {
                tell("the constant is not named with its number: " + f.getName());
            }
        }
    }
}
