import java.io.IOException;
import java.lang.reflect.InvocationTargetException;
import java.lang.reflect.Method;
import java.lang.reflect.Modifier;
import java.nio.charset.StandardCharsets;
import java.nio.file.Files;
import java.nio.file.Path;
import java.util.Arrays;
import java.util.regex.Matcher;
import java.util.regex.Pattern;

/** README.md: each call of its example answers the number at the head of its comment, and every call is named there. */
public final class PartCellsReadme {
    private static final String PAGE = "README.md";
    /** So many calls the example has at least; fewer would mean that it is no longer read. */
    private static final int LEAST_CALLS = 30;
    private static final Pattern LINE = Pattern.compile("x\\.(\\w+)\\(([^)]*)\\);\\s*// (-?\\d+)\\b.*");
    private static int wrong = 0;

    private static void check(boolean holds, String what) {
        if (!holds) {
            wrong++;
            System.out.println(what);
        }
    }

    public static void main(String[] args) throws IOException, ReflectiveOperationException {
        String page = Files.readString(Path.of(PAGE), StandardCharsets.UTF_8);
        checkExample(page);
        checkNames(page);
        System.out.println(wrong == 0 ? "the page is as due" : wrong + " things are not as due");
        if (wrong != 0) {
            System.exit(1);
        }
    }

    private static void checkExample(String page) throws ReflectiveOperationException {
        PartCells x = new PartCells();
        int calls = 0;
        for (String line : page.split("\n")) {
            if (!line.startsWith("x.")) {
                continue;
            }
            Matcher call = LINE.matcher(line);
            if (!call.matches()) {
                check(false, "no answer is told: " + line);
                continue;
            }
            long got = ask(x, call.group(1), numbers(call.group(2)));
            check(got == Long.parseLong(call.group(3)), line + " answered " + got);
            calls++;
        }
        check(calls >= LEAST_CALLS, "the example has only " + calls + " calls");
    }

    private static void checkNames(String page) {
        for (Method method : PartCells.class.getDeclaredMethods()) {
            boolean open = Modifier.isPublic(method.getModifiers());
            check(!open || page.contains("`" + method.getName() + "`"), "the page does not name " + method.getName());
        }
    }

    private static Object[] numbers(String text) {
        if (text.isEmpty()) {
            return new Object[0];
        }
        return Arrays.stream(text.split(", ")).map(PartCellsReadme::number).toArray();
    }

    private static Integer number(String text) {
        return text.startsWith("0b") ? Integer.parseInt(text.substring(2), 2) : Integer.parseInt(text);
    }

    private static long ask(PartCells x, String name, Object[] numbers) throws ReflectiveOperationException {
        Class<?>[] types = new Class<?>[numbers.length];
        Arrays.fill(types, int.class);
        try {
            return ((Number) PartCells.class.getMethod(name, types).invoke(x, numbers)).longValue();
        } catch (InvocationTargetException e) {
            throw new IllegalStateException(name + " threw", e.getCause());
        }
    }
}
