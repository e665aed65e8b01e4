import java.io.IOException;
import java.lang.reflect.Field;
import java.lang.reflect.Method;
import java.lang.reflect.Modifier;
import java.nio.file.Files;
import java.nio.file.Path;
import java.util.Set;
import java.util.regex.Matcher;
import java.util.regex.Pattern;

/** Words that ../shared/LANGUAGE.md rules out stand nowhere in the class's source, but in comments. */
public final class RulesTest {
    private static final Due due = new Due("RulesTest");
    private static final Set<Class<?>> CONSTANTS = Set.of(int.class, long.class, boolean.class, char.class, String.class,
        int[].class, long[].class, char[].class, byte[].class);
    private static final String[] RULED_OUT = {"\\b(throw|throws|try|catch|synchronized|assert|package|native|volatile)\\b",
        "->", "::", "\\bwhile \\(true\\)", "for \\(;;", "\"\\s*\\+", "\\+\\s*\"", "\\bSystem\\.(?!arraycopy)", "\\bObject\\b",
        "\\b(equals|hashCode|toString)\\s*\\(", "Exact\\b", "\\bThread\\b", "\\bRandom\\b", "Integer\\.M", "Long\\.M",
        "\\bprotected\\b", "\\benum \\w+ \\{[^}]*\\{", "\\bimport (?!java\\.util\\.Arrays;)"};

    public static void main(String[] args) throws IOException {
        String source = Files.readString(Path.of("src/main/java/PartSitters.java"));
        String code = source.replaceAll("(?s)/\\*.*?\\*/", "").replaceAll("//[^\n]*", "");
        for (String word : RULED_OUT) {
            Matcher found = Pattern.compile(word).matcher(code);
            due.is("ruled out: " + word, found.find() ? 1 : 0, 0);
        }
        long others = source.chars().filter(c -> c > 126 || c < 32 && c != '\n').count();
        due.is("signs that are none of 32 to 126", others, 0);
        int inside = code.split("\\b(class|record|interface|enum) [A-Z]", -1).length - 1;
        due.is("some twelve classes at most", inside <= 12 ? 1 : 0, 1);
        methodsAreShort(code);
        keepsToItsSize(PartSitters.class);
        for (Class<?> within : PartSitters.class.getDeclaredClasses()) {
            keepsToItsSize(within);
        }
        due.close();
    }

    /** From a line that begins a method to the one that ends it, by how far they stand in. */
    private static void methodsAreShort(String code) {
        Matcher method = Pattern.compile("(?ms)^( {4}| {8})([a-zA-Z][^;=\\n]*\\) \\{)$.*?^\\1\\}$").matcher(code);
        int methods = 0;
        while (method.find()) {
            methods++;
            int lines = method.group().split("\n").length;
            due.is(method.group(2) + " has " + lines + " lines", lines <= 60 ? 1 : 0, 1);
        }
        due.is("methods are found", methods > 80 ? 1 : 0, 1);
    }

    private static void keepsToItsSize(Class<?> one) {
        int fields = 0;
        for (Field field : one.getDeclaredFields()) {
            if (Modifier.isStatic(field.getModifiers())) {
                due.is(field + " is final", Modifier.isFinal(field.getModifiers()) ? 1 : 0, 1);
                due.is(field + " is of a type that may be", CONSTANTS.contains(field.getType()) ? 1 : 0, 1);
            } else {
                fields++;
            }
        }
        due.is(one + " has some twenty fields at most", fields <= 20 ? 1 : 0, 1);
        for (Method method : one.getDeclaredMethods()) {
            due.is(method + " has seven parameters at most", method.getParameterCount() <= 7 ? 1 : 0, 1);
        }
    }
}
