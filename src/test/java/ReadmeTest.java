import java.io.IOException;
import java.io.StringWriter;
import java.lang.reflect.Method;
import java.lang.reflect.Modifier;
import java.net.URI;
import java.net.URL;
import java.net.URLClassLoader;
import java.nio.file.Files;
import java.nio.file.Path;
import java.util.ArrayList;
import java.util.Comparator;
import java.util.List;
import java.util.TreeSet;
import java.util.regex.Matcher;
import java.util.regex.Pattern;
import java.util.stream.Stream;
import javax.tools.JavaCompiler;
import javax.tools.JavaFileObject;
import javax.tools.SimpleJavaFileObject;
import javax.tools.ToolProvider;

/**
 * README.md: its blocks of Java, one behind another, are compiled as they stand and run; each call answers what
 * stands behind it; each method of the face is shown; what it says of BAD, STATE, FULL, NONE is so.
 */
public final class ReadmeTest {
    private static final Due due = new Due("ReadmeTest");
    private static final Pattern BLOCK = Pattern.compile("(?s)```java\n(.*?)```");
    private static final Pattern CALL = Pattern.compile("(x\\.(\\w+)\\(.*?\\)); *// (-?\\d+|[A-Z]+)(:.*)?");

    public static void main(String[] args) throws Exception {
        String page = Files.readString(Path.of("README.md"));
        List<String> shown = new ArrayList<>();
        String program = program(page, shown);
        TreeSet<String> face = new TreeSet<>();
        for (Method method : PartSitters.class.getDeclaredMethods()) {
            if (Modifier.isPublic(method.getModifiers())) {
                face.add(method.getName());
            }
        }
        face.removeAll(shown);
        due.is("calls that are not shown: " + face, face.size(), 0);
        due.is("answers that are shown, " + shown.size() + ", are enough", shown.size() >= 45 ? 1 : 0, 1);
        constants(page);
        Path out = Files.createTempDirectory("readme");
        try {
            runCompiled(program, out);
        } finally {
            try (Stream<Path> left = Files.walk(out)) {
                for (Path path : left.sorted(Comparator.reverseOrder()).toList()) {
                    Files.delete(path);
                }
            }
        }
        due.close();
    }

    /** What ReadmeTest's program calls for each answer that is shown. */
    public static void answer(String call, long got, long want) {
        due.is("README.md: " + call, got, want);
    }

    /** The page's blocks as one program; each line that is a call must bear its answer. */
    private static String program(String page, List<String> shown) {
        StringBuilder program = new StringBuilder("public final class Shows {\n    public static void run() {\n");
        Matcher block = BLOCK.matcher(page);
        while (block.find()) {
            for (String line : block.group(1).split("\n")) {
                if (line.startsWith("x.")) {
                    Matcher call = CALL.matcher(line);
                    boolean whole = call.matches();
                    due.is("README.md: \"" + line + "\" bears its answer", whole ? 1 : 0, 1);
                    if (whole) {
                        shown.add(call.group(2));
                        program.append(checked(call.group(1), call.group(3)));
                    }
                } else {
                    program.append(line).append('\n');
                }
            }
        }
        return program.append("    }\n}\n").toString();
    }

    private static String checked(String call, String answer) {
        String want = Character.isLetter(answer.charAt(0)) ? "PartSitters." + answer : answer;
        return "ReadmeTest.answer(\"" + call.replace("\"", "\\\"") + "\", " + call + ", " + want + ");\n";
    }

    private static void constants(String page) {
        int[] values = {PartSitters.BAD, PartSitters.STATE, PartSitters.FULL, PartSitters.NONE};
        String[] names = {"BAD", "STATE", "FULL", "NONE"};
        for (int i = 0; i < names.length; i++) {
            String row = "| `" + names[i] + "` " + values[i] + " |";
            due.is("README.md has a row " + row, page.contains(row) ? 1 : 0, 1);
        }
    }

    private static void runCompiled(String program, Path out) throws Exception {
        JavaCompiler compiler = ToolProvider.getSystemJavaCompiler();
        due.is("there is a compiler", compiler == null ? 0 : 1, 1);
        if (compiler == null) {
            return;
        }
        StringWriter told = new StringWriter();
        List<String> options = List.of("-d", out.toString(), "-cp", System.getProperty("java.class.path"), "-proc:none");
        boolean compiled = compiler.getTask(told, null, null, options, null, List.of(source(program))).call();
        due.is("the page's Java compiles " + told, compiled ? 1 : 0, 1);
        if (compiled) {
            try (URLClassLoader loader = new URLClassLoader(new URL[] {out.toUri().toURL()})) {
                loader.loadClass("Shows").getMethod("run").invoke(null);
            }
        }
    }

    private static JavaFileObject source(String program) {
        return new SimpleJavaFileObject(URI.create("string:///Shows.java"), JavaFileObject.Kind.SOURCE) {
            @Override
            public CharSequence getCharContent(boolean ignoreEncodingErrors) throws IOException {
                return program;
            }
        };
    }
}
