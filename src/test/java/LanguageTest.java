import java.io.IOException;
import java.nio.file.Files;
import java.nio.file.Path;
import java.util.regex.Matcher;
import java.util.regex.Pattern;

/** What can be read off the source of LANGUAGE.md's rules: words and forms it leaves out. Run at the root. */
public final class LanguageTest {
    private static final String[] LEFT_OUT = {
        "\\b(throw|throws|try|catch|finally|synchronized|assert|import|package|double|float|native|volatile)\\b",
        "->", "::", "\\b\\w*Exact\\b", "\\bstatic \\{", "\\b(hashCode|toString|System\\.(?!arraycopy))\\b",
        "\\bpublic (?!final class RoundThrow|static final int|RoundThrow\\(\\)|int \\w+\\()", "\\bprotected\\b",
        "[^\\x00-\\x7f]", "\\bwhile \\(true\\)", "for \\(;;", "\\bstatic (?!final)[\\w\\[\\]]+ \\w+ *[=;]",
    };
    private static final int MOST_LINES = 60;

    private LanguageTest() {
    }

    public static void main(String[] args) throws IOException {
        String source = Files.readString(Path.of("src/main/java/RoundThrow.java"));
        String code = source.replaceAll("(?s)/\\*.*?\\*/", "").replaceAll("//[^\n]*", "");
        for (String form : LEFT_OUT) {
            Matcher matcher = Pattern.compile(form).matcher(code);
            Script.due("left out: " + form, matcher.find() ? 1 : 0, 0);
        }
        methodsAreShort(code);
        Matcher parameters = Pattern.compile("\\w+ \\w+\\((\\w+(\\[\\])? \\w+, ){7,}").matcher(code);
        Script.due("at most seven parameters", parameters.find() ? 1 : 0, 0);
        Script.due("at most twelve classes", code.split("\\bclass \\w+ \\{").length - 1 <= 12 ? 1 : 0, 1);
        Script.end();
    }

    private static void methodsAreShort(String code) {
        int begun = 0;
        String[] lines = code.split("\n");
        for (int i = 0; i < lines.length; i++) {
            if (lines[i].matches(" {4,8}[\\w\\[\\] ]+\\(.*\\) \\{")) {
                begun = i;
            } else if (lines[i].matches(" {4,8}\\}")) {
                Script.due("length of the method at: " + lines[begun].strip(),
                        lines[begun].contains("class") || i - begun <= MOST_LINES ? 1 : 0, 1);
                begun = i;
            }
        }
    }
}
