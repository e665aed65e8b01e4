import java.io.IOException;
import java.nio.file.Files;
import java.nio.file.Path;
import java.util.regex.Matcher;
import java.util.regex.Pattern;

/** Words that ../shared/LANGUAGE.md rules out stand nowhere in the class's source, but in comments. */
public final class RulesTest {
    private static final Due due = new Due("RulesTest");
    private static final String[] RULED_OUT = {"\\b(throw|throws|try|catch|synchronized|assert|package|native|volatile)\\b",
        "->", "::", "\\bwhile \\(true\\)", "for \\(;;", "\"\\s*\\+", "\\+\\s*\"", "\\bSystem\\.(?!arraycopy)", "\\bObject\\b",
        "\\b(equals|hashCode|toString)\\s*\\(", "Exact\\b", "\\bThread\\b", "\\bRandom\\b", "Integer\\.M", "Long\\.M",
        "\\bprotected\\b", "\\benum \\w+ \\{[^}]*\\{", "\\bimport (?!java\\.util\\.Arrays;)"};

    public static void main(String[] args) throws IOException {
        String source = Files.readString(Path.of("src/main/java/PartSitters.java"));
        String code = source.replaceAll("(?s)/\\*.*?\\*/", "").replaceAll("//[^\n]*", "");
        for (String word : RULED_OUT) {
            Matcher found = Pattern.compile(word).matcher(code);
            due.is("ruled out: " + word, found.find() ? 1 : 0, 0);
        }
        long others = source.chars().filter(c -> c > 126 || c < 32 && c != '\n').count();
        due.is("signs that are none of 32 to 126", others, 0);
        int inside = code.split("\\b(class|record|interface|enum) [A-Z]", -1).length - 1;
        due.is("some twelve classes at most", inside <= 12 ? 1 : 0, 1);
        due.close();
    }
}
