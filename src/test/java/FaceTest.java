import java.io.IOException;
import java.lang.reflect.Constructor;
import java.lang.reflect.Field;
import java.lang.reflect.Method;
import java.lang.reflect.Modifier;
import java.nio.file.Files;
import java.nio.file.Path;
import java.util.Set;
import java.util.TreeSet;
import java.util.regex.Matcher;
import java.util.regex.Pattern;

/** The public face, and those rules of LANGUAGE.md that can be seen from the members and the words of the source. */
public final class FaceTest {
    private static final Path SOURCE = Path.of("src/main/java/ProcedureDesk.java");
    private static final Set<String> CONSTANTS = Set.of("BAD=-1", "FULL=-2", "NONE=0", "DONE=1", "TIRED=2", "DEEP=3");
    private static final Set<String> METHODS = Set.of("int declare(1)", "int emit(4)", "int drop(1)", "void clear(0)",
        "int length(1)", "int run(3)", "int outcome(0)", "int result(0)", "int steps(0)", "int outs(0)", "int out(1)",
        "int parametersThatMatter(1)", "boolean resultMatters(1)", "int instructionsThatMatter(1)");
    private static final String[] FORBIDDEN = {"import", "package", "float", "double", "String", "Math", "Integer",
        "Long", "System", "Arrays", "Object", "null", "throw", "throws", "try", "catch", "finally", "synchronized",
        "assert", "instanceof", "interface", "enum", "record", "protected", "var", "extends", "implements"};

    public static void main(String[] args) throws IOException, IllegalAccessException {
        members();
        privateMembers();
        words();
        Answers.end();
    }

    private static void same(String what, Set<String> want, Set<String> got) {
        Answers.due(1, what + ": want " + new TreeSet<>(want) + ", got " + new TreeSet<>(got), true, want.equals(got));
    }

    private static void members() throws IllegalAccessException {
        Class<?> face = ProcedureDesk.class;
        Answers.due(1, "public and final", Modifier.PUBLIC | Modifier.FINAL, face.getModifiers());
        Set<String> constants = new TreeSet<>();
        for (Field field : face.getDeclaredFields()) {
            if (!Modifier.isPrivate(field.getModifiers())) {
                constants.add(field.getName() + "=" + field.get(null));
                Answers.due(1, field.getName(), Modifier.PUBLIC | Modifier.STATIC | Modifier.FINAL, field.getModifiers());
                Answers.due(1, field.getName() + " is an int", true, field.getType() == int.class);
            }
        }
        same("constants", CONSTANTS, constants);
        Set<String> methods = new TreeSet<>();
        for (Method method : face.getDeclaredMethods()) {
            if (!Modifier.isPrivate(method.getModifiers())) {
                methods.add(method.getReturnType() + " " + method.getName() + "(" + method.getParameterCount() + ")");
                Answers.due(1, method.getName(), Modifier.PUBLIC, method.getModifiers());
                for (Class<?> type : method.getParameterTypes()) {
                    Answers.due(1, method.getName() + " takes ints", true, type == int.class);
                }
            }
        }
        same("methods", METHODS, methods);
        Constructor<?>[] constructors = face.getDeclaredConstructors();
        Answers.due(1, "one constructor", 1, constructors.length);
        Answers.due(1, "its parameters", 0, constructors[0].getParameterCount());
        Answers.due(1, "it is public", Modifier.PUBLIC, constructors[0].getModifiers());
        Answers.due(1, "no class inside", 0, face.getDeclaredClasses().length);
    }

    private static void privateMembers() {
        int fields = 0;
        for (Field field : ProcedureDesk.class.getDeclaredFields()) {
            boolean isStatic = Modifier.isStatic(field.getModifiers());
            fields += isStatic ? 0 : 1;
            Class<?> type = field.getType();
            boolean number = type == int.class || type == long.class;
            Answers.due(1, field.getName() + " is a constant number", true, !isStatic || number);
            Class<?> element = type.isArray() ? type.getComponentType() : type;
            Answers.due(1, field.getName() + " is of numbers", true, element.isPrimitive());
        }
        Answers.due(1, "at most forty fields", true, fields <= 40);
        for (Method method : ProcedureDesk.class.getDeclaredMethods()) {
            Answers.due(1, method.getName() + " has at most seven parameters", true, method.getParameterCount() <= 7);
            for (Method other : ProcedureDesk.class.getDeclaredMethods()) {
                boolean clash = !method.equals(other) && method.getName().equals(other.getName());
                Answers.due(1, method.getName() + " is there once", false, clash);
            }
        }
    }

    private static void words() throws IOException {
        String source = Files.readString(SOURCE).replaceAll("(?s)/\\*.*?\\*/", " ").replaceAll("//[^\n]*", " ");
        for (String word : FORBIDDEN) {
            boolean found = Pattern.compile("\\b" + word + "\\b").matcher(source).find();
            Answers.due(1, "the word " + word, false, found);
        }
        Answers.due(1, "lambda or method reference", false, source.contains("->") || source.contains("::"));
        Answers.due(1, "text", false, source.contains("\""));
        Matcher made = Pattern.compile("(.*)\\bnew\\b(.*)").matcher(source);
        while (made.find()) {
            boolean field = made.group().matches(" {4}private final int\\[\\] \\w+ = new int\\[\\w+\\];");
            Answers.due(1, "made in a field's initialiser: " + made.group().trim(), true, field);
        }
    }
}
