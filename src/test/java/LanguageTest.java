import java.io.IOException;
import java.nio.charset.StandardCharsets;
import java.nio.file.Files;
import java.nio.file.Path;
import java.util.regex.Matcher;
import java.util.regex.Pattern;

/** What of LANGUAGE.md can be seen from the source by simple means. */
public final class LanguageTest {
    private static final Path SOURCE = Path.of("src/main/java/PeatRailway.java");
    private static final String[] NO_WORDS = {
        "import", "package", "throw", "throws", "try", "catch", "finally", "synchronized",
        "assert", "instanceof", "equals", "hashCode", "toString", "System", "Double", "Thread",
        "Object", "Exception", "record", "var", "yield", "volatile", "transient", "native",
        "protected"
    };
    private static final Pattern HEADER = Pattern.compile(
            "^( +)((?:public|private|static|final) )*[A-Za-z\\[\\]]+( [A-Za-z]+)?\\(.*\\) \\{$");
    private static final Pattern CONSTRUCTOR = Pattern.compile("^ +(public )?[A-Z][A-Za-z]*\\(.*");
    private static final int MOST_LINES = 60;

    public static void main(String[] args) throws IOException {
        byte[] bytes = Files.readAllBytes(SOURCE);
        boolean plain = true;
        for (byte b : bytes) {
            plain &= b == '\n' || b >= 32 && b < 127;
        }
        Due.holds(0, "the source has signs 32 to 126 and line ends alone", plain);
        String code = withoutTextsAndComments(new String(bytes, StandardCharsets.US_ASCII));
        words(code);
        members(code.split("\n"));
        Due.end();
    }

    private static String withoutTextsAndComments(String source) {
        return source.replaceAll("(?s)/\\*.*?\\*/", "").replaceAll("//[^\n]*", "")
                .replaceAll("\"[^\"\n]*\"", "\"\"").replaceAll("'[^'\n]*'", "' '");
    }

    private static void words(String code) {
        for (String word : NO_WORDS) {
            Due.holds(0, "the word " + word + " is not used",
                    !Pattern.compile("\\b" + word + "\\b").matcher(code).find());
        }
        Due.holds(0, "there is no lambda and no method reference",
                !code.contains("->") && !code.contains("::"));
        Matcher library = Pattern.compile("\\b([A-Z][a-z][A-Za-z]*)\\.(\\w+)").matcher(code);
        while (library.find()) {
            String used = library.group(1) + "." + library.group(2);
            Due.holds(0, "a use of the library: " + used, used.matches("Math\\.(max|min)"));
        }
        Matcher nested = Pattern.compile("\\bclass (\\w+)").matcher(code);
        int classes = 0;
        while (nested.find()) {
            classes++;
        }
        Due.holds(0, "there are at most twelve classes: " + classes, classes <= 12);
    }

    /** Objects are made in constructors alone, and methods are short. */
    private static void members(String[] lines) {
        String member = "";
        int begin = 0;
        for (int i = 0; i < lines.length; i++) {
            Matcher header = HEADER.matcher(lines[i]);
            if (header.matches() && !lines[i].trim().matches("(if|for|while|switch|else).*")) {
                member = lines[i];
                begin = i;
                String name = member.substring(0, member.indexOf('(')).trim();
                Due.holds(0, "at most seven parameters: " + name,
                        member.replaceAll("[^,]", "").length() < 7);
            }
            if (Pattern.compile("\\bnew\\b").matcher(lines[i]).find()) {
                Due.holds(0, "line " + (i + 1) + " makes an object in a constructor: " + lines[i],
                        CONSTRUCTOR.matcher(member).matches());
            }
            Due.holds(0, "the member at line " + (i + 1) + " is short: " + member,
                    !lines[i].matches(" {4,8}\\}") || i - begin < MOST_LINES
                    || lines[i].equals("    }") && member.startsWith("        "));
            Due.holds(0, "line " + (i + 1) + " is short", lines[i].length() <= 100);
        }
        Due.holds(0, "members are found", begin > 0);
    }
}
