import java.io.IOException;
import java.lang.reflect.Method;
import java.lang.reflect.Modifier;
import java.nio.file.Files;
import java.nio.file.Path;
import java.util.Map;
import java.util.Set;
import java.util.TreeMap;
import java.util.TreeSet;
import java.util.regex.Matcher;
import java.util.regex.Pattern;
import java.util.stream.Collectors;
import java.util.stream.Stream;

/**
 * The boundary cases against ../shared/DOC.md: the words of each stand there where it says, and no words of
 * 'Terms' and of the promises are left without a case. And the class's methods are those of the document's face.
 */
public final class DocTest {
    private static final Due due = new Due("DocTest");
    private static final Path DOC = Path.of("../shared/DOC.md");

    public static void main(String[] args) throws IOException {
        if (!Files.exists(DOC)) {
            System.out.println("DocTest: there is no " + DOC + " to compare with");
            return;
        }
        Boundaries all = new Boundaries("all");
        BoundaryAnswersTest.cases(all);
        BoundaryTapeTest.cases(all);
        BoundaryTextTest.cases(all);
        BoundaryStreetTest.cases(all);
        BoundaryDaysTest.cases(all);
        BoundaryPicturesTest.cases(all);
        BoundarySharesTest.cases(all);
        BoundarySeenTest.cases(all);
        BoundarySheetsTest.cases(all);
        theFace(Files.readString(DOC));
        Map<String, String> sections = sections(Files.readString(DOC));
        due.is("promises", sections.keySet().stream().filter(name -> name.startsWith("Promise ")).count(), 41);
        for (Boundaries.Case one : all.all()) {
            String section = sections.getOrDefault(one.where(), "");
            due.is(one.where() + ": \"" + one.words() + "\" stands there", section.contains(one.words()) ? 1 : 0, 1);
        }
        for (Map.Entry<String, String> section : sections.entrySet()) {
            if (section.getKey().equals("Terms") || section.getKey().startsWith("Promise ")) {
                String left = withoutCases(section.getKey(), section.getValue(), all);
                due.is(section.getKey() + ", words without a case: \"" + left + "\"", left.length(), 0);
            }
        }
        due.close();
    }

    /** Each method of 'The public face' and of the promises is the class's, and the class has no other one. */
    private static void theFace(String doc) {
        Set<String> face = new TreeSet<>();
        Matcher told = Pattern.compile("public (int|long) (\\w+\\(.*\\));").matcher(doc);
        while (told.find()) {
            face.add(told.group(1) + " " + told.group(2).replaceAll(" \\w+(?=[,)])", "").replace(" ", ""));
        }
        Set<String> promised = new TreeSet<>();
        told = Pattern.compile("`(int|long) (\\w+\\(.*\\))`: ").matcher(doc);
        while (told.find()) {
            promised.add(told.group(1) + " " + told.group(2).replaceAll(" \\w+(?=[,)])", "").replace(" ", ""));
        }
        Set<String> has = new TreeSet<>();
        for (Method method : PartSitters.class.getDeclaredMethods()) {
            if (Modifier.isPublic(method.getModifiers())) {
                String types = Stream.of(method.getParameterTypes()).map(Class::getName).collect(Collectors.joining(","));
                has.add(method.getReturnType() + " " + method.getName() + "(" + types + ")");
            }
        }
        due.is("the class has " + has + ", the face says " + face, has.equals(face) ? 1 : 0, 1);
        due.is("the promises say " + promised, has.equals(promised) ? 1 : 0, 1);
        due.is("methods", has.size(), 40);
    }

    /** The document's sections by name ('Terms', 'Promise 17'), blanks and line ends alike, without signatures. */
    private static Map<String, String> sections(String doc) {
        Map<String, String> found = new TreeMap<>();
        for (String section : doc.split("\n## ")) {
            int end = section.indexOf('\n');
            String name = section.substring(0, end).replaceAll("^(Promise \\d+):.*", "$1");
            String words = section.substring(end).replaceAll("(?m)^Ahead of the calls.*$", "").replaceAll("```(text)?", "")
                    .replaceAll("`(int|long) [^`]*`: ", "").replaceAll("======== \\d+ ", "").replaceAll("\\s+", " ");
            found.put(name, words);
        }
        return found;
    }

    /** The words of a section that no case bears. */
    private static String withoutCases(String name, String section, Boundaries all) {
        StringBuilder left = new StringBuilder(section);
        for (Boundaries.Case one : all.all()) {
            int at = one.where().equals(name) ? section.indexOf(one.words()) : -1;
            for (; at >= 0; at = section.indexOf(one.words(), at + 1)) {
                for (int i = at; i < at + one.words().length(); i++) {
                    left.setCharAt(i, ' ');
                }
            }
        }
        return left.toString().replaceAll("[^A-Za-z0-9]+", " ").trim();
    }
}
