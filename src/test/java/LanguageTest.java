import java.nio.charset.StandardCharsets;
import java.nio.file.Files;
import java.nio.file.Path;
import java.util.List;
import java.util.regex.Matcher;
import java.util.regex.Pattern;

/** The rules of LANGUAGE.md that can be seen in the source's text. */
public final class LanguageTest {
    private static final String SOURCE = "src/main/java/BurlPipes.java";
    private static final List<String> FORBIDDEN = List.of("\\bthrow\\b", "\\bthrows\\b", "\\btry\\b", "\\bcatch\\b",
            "\\bsynchronized\\b", "\\bassert\\b", "\\bvar\\b", "\\bpackage\\b", "\\bimport\\b", "\\bprotected\\b",
            "->", "::", "\\bjava\\.", "\\bThread\\b", "\\bSystem\\.(?!arraycopy\\b)", "\\bExact\\b", "@",
            "\\bstatic\\s*\\{", "\\bhashCode\\b", "\\btoString\\b", "\\bdouble\\b", "\\bfloat\\b");

    public static void main(String[] args) throws Exception {
        Check c = new Check("LanguageTest");
        String text = Files.readString(Path.of(SOURCE), StandardCharsets.ISO_8859_1);
        for (int i = 0; i < text.length(); i++) {
            if (text.charAt(i) > 126 || text.charAt(i) == '\t') {
                c.due("a character that is plain at " + i, text.charAt(i), ' ');
            }
        }
        String code = withoutComments(text);
        for (String word : FORBIDDEN) {
            Matcher m = Pattern.compile(word).matcher(code);
            if (m.find()) {
                c.due("uses of " + word + " at line " + lineOf(code, m.start()), 1, 0);
            }
        }
        checkMethodLengths(c, code);
        c.end();
    }

    private static String withoutComments(String text) {
        Matcher m = Pattern.compile("/\\*.*?\\*/|//[^\n]*|\"[^\"\n]*\"", Pattern.DOTALL).matcher(text);
        return m.replaceAll(r -> r.group().replaceAll("[^\n]", " "));
    }

    private static int lineOf(String code, int at) {
        return (int) code.substring(0, at).chars().filter(ch -> ch == '\n').count() + 1;
    }

    private static void checkMethodLengths(Check c, String code) {
        String[] lines = code.split("\n", -1);
        int start = -1;
        String end = "";
        for (int i = 0; i < lines.length; i++) {
            String line = lines[i];
            String indent = line.substring(0, line.length() - line.stripLeading().length());
            if (start < 0 && line.matches(" {4,8}[\\w\\[\\] ]+\\(.*") && !line.contains(";")) {
                start = i;
                end = indent + "}";
                c.holds("line " + (i + 1) + ": seven parameters at most", line.split(",").length <= 7);
            } else if (start >= 0 && line.equals(end)) {
                c.holds("the method at line " + (start + 1) + " is short", i - start < 60);
                start = -1;
            }
        }
    }
}
