import java.io.IOException;
import java.lang.reflect.Constructor;
import java.lang.reflect.Field;
import java.lang.reflect.Method;
import java.lang.reflect.Modifier;
import java.nio.charset.StandardCharsets;
import java.nio.file.Files;
import java.nio.file.Path;
import java.util.Arrays;
import java.util.Set;
import java.util.TreeSet;

/** The document's public face, no more and no less, and the rules of LANGUAGE.md that a look at the text can tell. */
public final class PartCellsFace {
    private static final String SOURCE = "src/main/java/PartCells.java";
    private static final String[] METHODS = {"works 2", "route 3", "goes 2", "pieces 2", "cell 2", "group 1", "about 2", "loss 1",
        "best 3", "plain 0", "like 3", "join 2", "bears 2", "load 1", "routes 1", "price 2", "copy 2", "saved 1", "way 4",
        "floor 1", "keep 1", "year 1", "change 1", "plan 0", "count 1", "trace 0"};
    private static final String[] FORBIDDEN = {"throw", "try", "catch", "synchronized", "assert", "Exact", "MAX_VALUE", "MIN_VALUE",
        "System.out", "System.err", "->", "::", "package ", "null", "protected", "Object", "static {"};
    private static final int MOST_CLASSES = 12;
    private static final int MOST_FIELDS = 20;
    private static final int MOST_LINES = 60;
    private static final Set<Class<?>> STATIC_TYPES = Set.of(int.class, long.class, boolean.class, char.class, String.class,
        int[].class, long[].class, char[].class, byte[].class);
    private static int wrong = 0;

    private static void check(boolean holds, String what) {
        if (!holds) {
            wrong++;
            System.out.println(what);
        }
    }

    public static void main(String[] args) throws IOException {
        checkClass();
        checkConstants();
        checkMethods();
        checkInnerNames();
        checkSizes();
        checkText();
        System.out.println(wrong == 0 ? "the face is as due" : wrong + " things are not as due");
        if (wrong != 0) {
            System.exit(1);
        }
    }

    private static void checkClass() {
        int modifiers = PartCells.class.getModifiers();
        check(Modifier.isPublic(modifiers) && Modifier.isFinal(modifiers), "PartCells is not public and final");
        Constructor<?>[] constructors = PartCells.class.getDeclaredConstructors();
        check(constructors.length == 1 && Modifier.isPublic(constructors[0].getModifiers())
            && constructors[0].getParameterCount() == 0, "the constructor is not as due");
    }

    private static void checkConstants() {
        check(PartCells.BAD == -1 && PartCells.STATE == -2 && PartCells.FULL == -3 && PartCells.NONE == -9, "a constant is not as due");
        Set<String> open = new TreeSet<>();
        for (Field field : PartCells.class.getDeclaredFields()) {
            int modifiers = field.getModifiers();
            if (!Modifier.isPrivate(modifiers)) {
                open.add(field.getName());
                check(Modifier.isPublic(modifiers) && Modifier.isStatic(modifiers) && Modifier.isFinal(modifiers)
                    && field.getType() == int.class, field.getName() + " is no public int constant");
            }
        }
        check(open.equals(new TreeSet<>(Arrays.asList("BAD", "STATE", "FULL", "NONE"))), "open fields: " + open);
    }

    private static void checkMethods() {
        Set<String> open = new TreeSet<>();
        for (Method method : PartCells.class.getDeclaredMethods()) {
            if (Modifier.isPrivate(method.getModifiers())) {
                continue;
            }
            open.add(method.getName() + " " + method.getParameterCount());
            Class<?> due = method.getName().equals("trace") ? long.class : int.class;
            check(method.getReturnType() == due, method.getName() + " answers another type");
            check(Modifier.isPublic(method.getModifiers()) && !Modifier.isStatic(method.getModifiers()), method.getName() + " is not public");
            for (Class<?> type : method.getParameterTypes()) {
                check(type == int.class, method.getName() + " takes another type");
            }
        }
        check(open.equals(new TreeSet<>(Arrays.asList(METHODS))), "open methods: " + open);
    }

    private static void checkInnerNames() {
        Set<String> names = new TreeSet<>();
        for (String method : METHODS) {
            names.add(method.split(" ")[0]);
        }
        for (Method method : PartCells.class.getDeclaredMethods()) {
            check(!Modifier.isPrivate(method.getModifiers()) || !names.contains(method.getName()), method.getName() + " is private, too");
        }
        for (Class<?> inner : PartCells.class.getDeclaredClasses()) {
            check(Modifier.isStatic(inner.getModifiers()), inner.getName() + " is not static");
            for (Method method : inner.getDeclaredMethods()) {
                check(!names.contains(method.getName()), inner.getName() + " has a method with a public one's name: " + method.getName());
                check(method.getParameterCount() <= 7, method.getName() + " takes too many");
            }
            for (Field field : inner.getDeclaredFields()) {
                check(!Modifier.isStatic(field.getModifiers()) || Modifier.isFinal(field.getModifiers()), field.getName() + " is static state");
            }
        }
    }

    private static void checkSizes() {
        check(PartCells.class.getDeclaredClasses().length < MOST_CLASSES, "there are too many classes");
        checkFields(PartCells.class);
        for (Class<?> inner : PartCells.class.getDeclaredClasses()) {
            checkFields(inner);
        }
    }

    private static void checkFields(Class<?> some) {
        int fields = 0;
        for (Field field : some.getDeclaredFields()) {
            if (Modifier.isStatic(field.getModifiers())) {
                check(STATIC_TYPES.contains(field.getType()), field.getName() + " is no constant that the rules allow");
            } else {
                fields++;
            }
        }
        check(fields <= MOST_FIELDS, some.getName() + " has too many fields");
    }

    private static void checkText() throws IOException {
        String text = Files.readString(Path.of(SOURCE), StandardCharsets.UTF_8);
        String code = text.replaceAll("(?s)/\\*.*?\\*/", "").replaceAll("//[^\n]*", "");
        for (String word : FORBIDDEN) {
            check(!code.contains(word), "PartCells.java has " + word);
        }
        for (String line : code.split("\n")) {
            check(!line.startsWith("import ") || line.equals("import java.util.Arrays;"), "PartCells.java has " + line);
            // rows are made with the object and used again, so that no call takes from the room
            check(!line.contains("new ") || line.trim().startsWith("private final "), "made outside of a constructor: " + line);
        }
        checkLengths(code.split("\n"));
    }

    /** A method ends at the brace that stands as deep as its head, at the first or second depth of the file. */
    private static void checkLengths(String[] lines) {
        for (String indent : new String[] {"    ", "        "}) {
            int head = -1;
            for (int at = 0; at < lines.length; at++) {
                if (lines[at].matches(indent + "[a-z].*\\) \\{")) {
                    head = at;
                } else if (head >= 0 && lines[at].equals(indent + "}")) {
                    check(at - head < MOST_LINES, "too long: " + lines[head].trim());
                    head = -1;
                }
            }
        }
    }
}
