import java.io.IOException;
import java.lang.reflect.Constructor;
import java.lang.reflect.Field;
import java.lang.reflect.Method;
import java.lang.reflect.Modifier;
import java.nio.file.Files;
import java.nio.file.Path;
import java.util.Arrays;
import java.util.HashSet;
import java.util.Set;
import java.util.TreeSet;
import java.util.regex.Pattern;

/** The public face of the document, and the rules of LANGUAGE.md that a test can see. */
public final class LanguageTest {
    private static final Path SOURCE = Path.of("src/main/java/CardFiles.java");
    private static final Set<String> FACE = Set.of(
        "int create(int,int,boolean)", "int update(int,int,int)", "int read(int,int)",
        "int begin()", "int commit()", "int abort()", "int verify(int)", "int change(int)",
        "void power()", "void torn(boolean,int)", "int size(int)", "int state()");
    private static final Set<Class<?>> SIMPLE = Set.of(
        int.class, long.class, short.class, byte.class, char.class, boolean.class);
    private static final String[] FORBIDDEN = {
        "import", "package", "throw", "throws", "try", "catch", "finally", "synchronized", "assert",
        "instanceof", "null", "float", "double", "String", "Math", "Integer", "Long", "System",
        "Arrays", "Object", "var", "enum", "record", "interface", "protected", "volatile", "native"};

    private static final Checks CHECKS = new Checks();

    public static void main(String[] args) throws IOException {
        constants();
        theClass();
        methods();
        fields();
        source();
        CHECKS.end();
    }

    private static void constants() {
        CHECKS.due("BAD", CardFiles.BAD, -1);
        CHECKS.due("OPEN", CardFiles.OPEN, -2);
        CHECKS.due("LOCKED", CardFiles.LOCKED, -3);
        CHECKS.due("BLOCKED", CardFiles.BLOCKED, -4);
    }

    private static void theClass() {
        int modifiers = CardFiles.class.getModifiers();
        CHECKS.holds("public and final", Modifier.isPublic(modifiers) && Modifier.isFinal(modifiers));
        CHECKS.due("nested classes", CardFiles.class.getDeclaredClasses().length, 0);
        Constructor<?>[] constructors = CardFiles.class.getDeclaredConstructors();
        CHECKS.due("constructors", constructors.length, 1);
        CHECKS.holds("public constructor", Modifier.isPublic(constructors[0].getModifiers()));
        CHECKS.due("its parameters", constructors[0].getParameterCount(), 0);
    }

    private static void methods() {
        Set<String> face = new TreeSet<>();
        Set<String> publicNames = new HashSet<>();
        for (Method method : CardFiles.class.getDeclaredMethods()) {
            if (Modifier.isPublic(method.getModifiers())) {
                face.add(signature(method));
                publicNames.add(method.getName());
                CHECKS.holds(method + " is not static", !Modifier.isStatic(method.getModifiers()));
            }
        }
        CHECKS.holds("the public methods are the document's: " + face, face.equals(FACE));
        for (Method method : CardFiles.class.getDeclaredMethods()) {
            if (!Modifier.isPublic(method.getModifiers())) {
                CHECKS.holds(method + " is private", Modifier.isPrivate(method.getModifiers()));
                CHECKS.holds(method + " has its own name", !publicNames.contains(method.getName()));
            }
            CHECKS.holds(method + " answers no array", !method.getReturnType().isArray());
            CHECKS.holds(method + " takes at most seven", method.getParameterCount() <= 7);
        }
    }

    private static String signature(Method method) {
        String types = String.join(",",
            Arrays.stream(method.getParameterTypes()).map(Class::getName).toArray(String[]::new));
        return method.getReturnType().getName() + " " + method.getName() + "(" + types + ")";
    }

    private static void fields() {
        Set<String> publicNames = new HashSet<>();
        int held = 0;
        for (Field field : CardFiles.class.getDeclaredFields()) {
            int modifiers = field.getModifiers();
            Class<?> type = field.getType();
            if (Modifier.isPublic(modifiers)) {
                publicNames.add(field.getName());
            } else {
                CHECKS.holds(field + " is private", Modifier.isPrivate(modifiers));
            }
            if (Modifier.isStatic(modifiers)) {
                CHECKS.holds(field + " is a constant",
                    Modifier.isFinal(modifiers) && (type == int.class || type == long.class));
            } else {
                held++;
                CHECKS.holds(field + " is simple",
                    SIMPLE.contains(type.isArray() ? type.getComponentType() : type));
            }
        }
        CHECKS.holds("public fields", publicNames.equals(Set.of("BAD", "OPEN", "LOCKED", "BLOCKED")));
        CHECKS.holds("at most forty fields", held <= 40);
    }

    private static void source() throws IOException {
        String text = Files.readString(SOURCE);
        String code = text.replaceAll("(?s)/\\*.*?\\*/", "").replaceAll("//[^\n]*", "");
        for (String word : FORBIDDEN) {
            CHECKS.holds("no " + word, !Pattern.compile("\\b" + word + "\\b").matcher(code).find());
        }
        CHECKS.holds("no lambda or method reference", !code.contains("->") && !code.contains("::"));
        CHECKS.holds("no static initialiser", !Pattern.compile("static\\s*\\{").matcher(code).find());
        String withoutFields = code.replaceAll("private final int\\[\\] \\w+ = new int\\[[A-Z_]+\\];", "");
        CHECKS.holds("arrays are made in fields alone", !Pattern.compile("\\bnew\\b").matcher(withoutFields).find());
    }
}
