import java.nio.file.Files;
import java.nio.file.Path;
import java.util.regex.Matcher;
import java.util.regex.Pattern;

/** Those of LANGUAGE.md's rules that can be seen in the text of the class; run from the project's folder. */
public final class LanguageTest {
    private static final String[] REFUSED = {
        "\\bthrow\\b", "\\bthrows\\b", "\\btry\\b", "\\bcatch\\b", "\\bsynchronized\\b", "\\bassert\\b", "->", "::",
        "\\bimport\\b", "\\bpackage\\b", "\\bException\\b", "\\bdouble\\b", "\\bfloat\\b", "\\bSystem\\.(?!arraycopy)",
        "Exact\\(", "\\bstatic\\s*\\{", "\\bequals\\(", "\\bhashCode\\b", "\\btoString\\b", "\\bwhile\\b"
    };

    public static void main(String[] args) throws Exception {
        Due due = new Due();
        String source = Files.readString(Path.of("src/main/java/QuinceEnd.java"));
        String code = source.replaceAll("(?s)/\\*.*?\\*/", "").replaceAll("//[^\n]*", "");
        for (String refused : REFUSED) {
            Matcher m = Pattern.compile(refused).matcher(code);
            due.is(refused + " in the class", m.find() ? 1 : 0, 0);
        }
        due.is("signs beyond 127", source.chars().filter(c -> c > 127).count(), 0);
        due.is("classes, at most twelve", Math.max(12, count(code, "\\bclass\\s+\\w+")), 12);
        due.is("classes inside that are not static", count(code, "(?<!static )final class ") - 1, 0);
        due.is("static fields that are not final", count(code, "\\bstatic (?!final)(int|long|boolean|char|String)"
            + "(\\[\\])? \\w+ ?[;=]"), 0);
        longestMethod(code, due);
        due.end();
    }

    private static int count(String code, String pattern) {
        Matcher m = Pattern.compile(pattern).matcher(code);
        int n = 0;
        while (m.find()) {
            n++;
        }
        return n;
    }

    /** A method's first line ends with ") {" and has no word of a statement; it ends at the same depth. */
    private static void longestMethod(String code, Due due) {
        String[] lines = code.split("\n");
        for (int i = 0; i < lines.length; i++) {
            String head = lines[i].trim();
            if (head.matches("(public |private |static |final )*[\\w\\[\\]]+ \\w+\\(.*\\) \\{")
                && !head.startsWith("else")) {
                String end = lines[i].substring(0, lines[i].indexOf(head)) + "}";
                int last = i;
                while (last < lines.length - 1 && !lines[last].equals(end)) {
                    last++;
                }
                due.is("lines of " + head + ", at most 60", Math.max(60, last - i + 1), 60);
                due.is("parameters of " + head + ", at most 7", Math.max(6, count(head, ",")), 6);
            }
        }
    }
}
