import java.io.IOException;
import java.lang.reflect.Constructor;
import java.lang.reflect.Field;
import java.lang.reflect.Method;
import java.lang.reflect.Modifier;
import java.nio.file.Files;
import java.nio.file.Path;
import java.util.Arrays;
import java.util.List;
import java.util.Set;
import java.util.TreeSet;
import java.util.regex.Pattern;

/**
 * The public face of the document, and those rules of LANGUAGE.md that can be seen in the members
 * and the words of the class; SourceRulesTest looks at its syntax.
 */
public final class LanguageTest {
    private static final Path SOURCE = Path.of("src/main/java/RedBlackMap.java");

    private static final Set<String> FACE = new TreeSet<>(List.of(
            "int put(int, int)", "int remove(int)", "int get(int)", "int place(int)",
            "int count(int, int)", "long sum(int, int)", "int removeAll(int, int)",
            "int seek(int)", "int jump(int)", "int next()", "int back()", "int key()",
            "int set(int)"));

    private static final List<String> FORBIDDEN_WORDS = List.of(
            "import", "package", "throw", "throws", "try", "catch", "finally", "synchronized",
            "assert", "instanceof", "float", "double", "null", "String", "Object", "Math",
            "Integer", "Long", "System", "Arrays", "var", "enum", "interface", "record",
            "hashCode", "equals", "toString", "getClass", "clone");

    private static final Set<Class<?>> TYPES = Set.of(
            int.class, long.class, short.class, byte.class, char.class, boolean.class,
            int[].class, long[].class, short[].class, byte[].class, char[].class,
            boolean[].class);

    public static void main(String[] args) throws IOException {
        checkClass();
        checkMethods();
        checkFields();
        checkWords(withoutComments(Files.readString(SOURCE)));
        Check.end();
    }

    private static void checkClass() {
        Class<?> map = RedBlackMap.class;
        Check.holds("the class is public and final",
                map.getModifiers() == (Modifier.PUBLIC | Modifier.FINAL));
        Check.holds("it extends Object alone",
                map.getSuperclass() == Object.class && map.getInterfaces().length == 0);
        Check.due("nested classes", map.getDeclaredClasses().length, 0);
        Constructor<?>[] constructors = map.getDeclaredConstructors();
        Check.due("constructors", constructors.length, 1);
        Check.holds("the constructor is public, without parameters",
                constructors[0].getModifiers() == Modifier.PUBLIC
                        && constructors[0].getParameterCount() == 0);
    }

    private static void checkMethods() {
        Set<String> found = new TreeSet<>();
        Set<String> publicNames = new TreeSet<>();
        for (Method method : RedBlackMap.class.getDeclaredMethods()) {
            if (method.getModifiers() == Modifier.PUBLIC) {
                found.add(signature(method));
                publicNames.add(method.getName());
            }
        }
        Check.holds("the public methods are those of the document: " + found, found.equals(FACE));
        for (Method method : RedBlackMap.class.getDeclaredMethods()) {
            if (method.getModifiers() == Modifier.PUBLIC) {
                continue;
            }
            String name = method.getName();
            Class<?> answer = method.getReturnType();
            Check.holds(name + " is private", Modifier.isPrivate(method.getModifiers()));
            Check.holds(name + " bears no public name", !publicNames.contains(name));
            Check.holds(name + " answers no array", !answer.isArray());
            Check.holds(name + " has plain types", (answer == void.class || TYPES.contains(answer))
                    && TYPES.containsAll(Arrays.asList(method.getParameterTypes())));
        }
    }

    private static String signature(Method method) {
        StringBuilder types = new StringBuilder();
        for (Class<?> type : method.getParameterTypes()) {
            types.append(types.length() == 0 ? "" : ", ").append(type.getName());
        }
        return method.getReturnType().getName() + " " + method.getName() + "(" + types + ")";
    }

    private static void checkFields() {
        int beside = 0;
        for (Field field : RedBlackMap.class.getDeclaredFields()) {
            int modifiers = field.getModifiers();
            Class<?> type = field.getType();
            Check.holds(field.getName() + " is private", Modifier.isPrivate(modifiers));
            Check.holds(field.getName() + " has a plain type", TYPES.contains(type));
            if (Modifier.isStatic(modifiers)) {
                Check.holds(field.getName() + " is a constant of int or long",
                        Modifier.isFinal(modifiers) && (type == int.class || type == long.class));
            } else {
                beside++;
            }
            Check.holds(field.getName() + " is final if an array",
                    !type.isArray() || Modifier.isFinal(modifiers));
        }
        Check.holds("at most forty fields beside the constants", beside <= 40);
    }

    private static void checkWords(String source) {
        for (String word : FORBIDDEN_WORDS) {
            Check.holds("the source is without the word " + word,
                    !Pattern.compile("\\b" + word + "\\b").matcher(source).find());
        }
        for (String sign : List.of("->", "::", "\"", "@", "[][]")) {
            Check.holds("the source is without the sign " + sign, !source.contains(sign));
        }
    }

    private static String withoutComments(String source) {
        return source.replaceAll("(?s)/\\*.*?\\*/", " ").replaceAll("//[^\n]*", " ");
    }
}
