import java.io.IOException;
import java.nio.file.Files;
import java.nio.file.Path;
import java.util.regex.Matcher;
import java.util.regex.Pattern;

/** What of ../shared/LANGUAGE.md can be seen in the text of the class. */
public final class LanguageTest {
    private static final String[] FORBIDDEN = {
        "throw", "throws", "try", "catch", "finally", "synchronized", "assert", "import", "package", "protected",
        "volatile", "transient", "native", "long[][]", "Object", "Exception", "System.out", "Random", "Thread",
        "equals(", "hashCode", "toString", "->", "::", "@",
    };

    public static void main(String[] args) throws IOException {
        String name = System.getProperty("source", "src/main/java/EnginesOnList.java");
        String text = Files.readString(Path.of(name));
        Checks.holds("signs 10, 32 to 126 alone", text.matches("[\\n -~]*"));
        String code = text.replaceAll("(?s)/\\*.*?\\*/", "").replaceAll("//.*", "");
        for (String forbidden : FORBIDDEN) {
            boolean word = Character.isLetter(forbidden.charAt(0)) && !forbidden.endsWith("(");
            Pattern pattern = Pattern.compile((word ? "\\b" : "") + Pattern.quote(forbidden) + (word ? "\\b" : ""));
            Checks.holds("no " + forbidden, !pattern.matcher(code).find());
        }
        libraryIsListed(code);
        staticsAreFinal(code);
        classesAreStatic(code);
        methodsAreShort(code);
        Checks.end("LanguageTest");
    }

    /** Of the library's classes only the functions that rule 4 lists are named, and none of their constants. */
    private static void libraryIsListed(String code) {
        Matcher named = Pattern.compile("\\b(Math|Integer|Long|System|Arrays|String|Character|Boolean|List)\\.\\w+\\(?").matcher(code);
        Pattern listed = Pattern.compile("Math\\.(min|max|abs)\\(|Integer\\.bitCount\\(|System\\.arraycopy\\(");
        while (named.find()) {
            Checks.holds("listed: " + named.group(), listed.matcher(named.group()).matches());
        }
    }

    private static void staticsAreFinal(String code) {
        Matcher statics = Pattern.compile("\\bstatic\\b[^(;{]*[=;]").matcher(code);
        while (statics.find()) {
            Checks.holds("final: " + statics.group(), statics.group().contains("final"));
        }
        Checks.holds("no static block", !Pattern.compile("\\bstatic\\s*\\{").matcher(code).find());
    }

    private static void classesAreStatic(String code) {
        Matcher classes = Pattern.compile("(?m)^(.*)\\bclass (\\w+)").matcher(code);
        int count = 0;
        while (classes.find()) {
            count++;
            Checks.holds(classes.group(2), count == 1 ? classes.group(1).equals("public final ") : classes.group(1).contains("private static final "));
        }
        Checks.holds("at most twelve classes", count <= 12);
    }

    /** A method starts at a line that ends in a brace behind its arguments, and ends at a brace of the same depth. */
    private static void methodsAreShort(String code) {
        Pattern heading = Pattern.compile("^( {4}| {8})(private|public)[^=]*\\((.*)\\) \\{$");
        String[] lines = code.split("\n");
        for (int i = 0; i < lines.length; i++) {
            Matcher method = heading.matcher(lines[i]);
            if (method.matches()) {
                int length = 1;
                while (!lines[i + length].equals(method.group(1) + "}")) {
                    length++;
                }
                Checks.holds("at most 60 lines: " + lines[i].trim(), length < 60);
                Checks.holds("at most seven parameters: " + lines[i].trim(), method.group(3).split(",").length <= 7);
            }
        }
    }
}
