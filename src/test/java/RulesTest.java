import java.nio.file.Files;
import java.nio.file.Path;
import java.util.regex.Matcher;
import java.util.regex.Pattern;

/** What of ../shared/LANGUAGE.md can be seen in the source's letters. */
public final class RulesTest {
    private static int wrong = 0;

    public static void main(String[] args) throws Exception {
        String source = Files.readString(Path.of("src/main/java/EstateOffice.java"));
        String bare = source.replaceAll("(?s)/\\*.*?\\*/", "").replaceAll("//[^\\n]*", "")
            .replaceAll("'(\\\\.|[^'\\\\])'", "' '").replaceAll("\"(\\\\.|[^\"\\\\])*\"", "\"\"");
        none("rule 6", bare, "\\b(throw|throws|try|catch|synchronized|assert|instanceof)\\b");
        none("rule 2", bare, "->|::|\\b(yield|sealed)\\b");
        none("rule 3", bare, "\\b(double|float|Object|Long|Map|Set|Optional|Stream|BigInteger|var)\\b(?!\\.)");
        none("rule 5", bare, "static\\s*\\{");
        none("rule 6, names", bare, "\\b(equals|hashCode|toString)\\s*\\(");
        none("rule 1, package", bare, "\\bpackage\\b");
        none("rule 4", bare, "\\bimport\\b(?! java\\.util\\.Arrays;)|Exact\\b|@|\\bsystem\\.(?!arraycopy)");
        none("rule 1, nested members", bare, "(?m)^        (public|protected) ");
        none("rule 9", bare, "while\\s*\\(\\s*true\\s*\\)|for\\s*\\(;;\\)");
        none("rule 11, parameters", bare, "\\(([^(),]+ [^(),]+,){7,}[^()]*\\)\\s*\\{");
        none("signs", source, "[^\\x09\\x0a\\x20-\\x7e]");
        faceNames(bare);
        methodLengths(bare);
        classes(bare);
        System.out.println(wrong == 0 ? "the source keeps to the rules" : wrong + " places against the rules");
        if (wrong != 0) {
            System.exit(1);
        }
    }

    private static void none(String rule, String text, String regex) {
        Matcher m = Pattern.compile(regex).matcher(text);
        while (m.find()) {
            wrong++;
            System.out.println(rule + ": '" + m.group() + "' stands in the source");
        }
    }

    /** No method inside bears the name of one of the face. */
    private static void faceNames(String bare) {
        Matcher face = Pattern.compile("(?m)^    public \\w+ (\\w+)\\(").matcher(bare);
        int methods = 0;
        while (face.find()) {
            methods++;
            String name = face.group(1);
            Matcher other = Pattern.compile("(?m)^ {4,}(private |static |final )*[\\w\\[\\]]+ " + name + "\\([^;]*\\{$").matcher(bare);
            while (other.find()) {
                String line = other.group().trim();
                if (!line.startsWith("return ") && !line.startsWith("else ")) {
                    wrong++;
                    System.out.println("rule 1: " + line);
                }
            }
        }
        if (methods != 22) {
            wrong++;
            System.out.println("the face has " + methods + " methods, not 22");
        }
    }

    private static void methodLengths(String bare) {
        int start = -1;
        int indent = 0;
        String[] lines = bare.split("\n");
        for (int i = 0; i < lines.length; i++) {
            Matcher m = Pattern.compile("^( {4}| {8})[\\w\\[\\] ]+\\([^;]*\\) \\{$").matcher(lines[i]);
            if (m.find()) {
                start = i;
                indent = m.group(1).length();
            } else if (start >= 0 && lines[i].equals(" ".repeat(indent) + "}")) {
                if (i - start > 60) {
                    wrong++;
                    System.out.println("rule 11: a method of " + (i - start) + " lines: " + lines[start].trim());
                }
                start = -1;
            }
        }
    }

    private static void classes(String bare) {
        Matcher m = Pattern.compile("(?m)^ *(public |private |static |final )*(class|enum|interface|record) ").matcher(bare);
        int all = 0;
        while (m.find()) {
            all++;
        }
        if (all > 12) {
            wrong++;
            System.out.println("rule 11: " + all + " classes");
        }
    }
}
