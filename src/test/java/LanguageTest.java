import java.nio.file.Files;
import java.nio.file.Path;
import java.util.List;
import java.util.regex.Matcher;
import java.util.regex.Pattern;

/** Rules of ../shared/LANGUAGE.md that can be seen in the words of the program's file. */
public final class LanguageTest {
    private static final Due DUE = new Due("LanguageTest");
    private static final Path FILE = Path.of("src/main/java/HandOverHorse.java");

    public static void main(String[] args) throws Exception {
        String source = Files.readString(FILE);
        String code = withoutComments(source);
        words(code);
        library(code);
        lengths(code);
        DUE.that("signs 1 to 127 alone", source.chars().allMatch(c -> c >= 1 && c <= 127));
        DUE.end();
    }

    /** Comments become blanks, so that lines keep their numbers. */
    private static String withoutComments(String source) {
        Matcher comment = Pattern.compile("/\\*.*?\\*/|//[^\n]*", Pattern.DOTALL).matcher(source);
        return comment.replaceAll(found -> found.group().replaceAll("[^\n]", " "));
    }

    private static void words(String code) {
        String[] ruledOut = {
            "package", "import", "throw", "throws", "try", "catch", "finally", "synchronized", "assert", "native",
            "protected", "volatile", "transient", "var", "equals", "hashCode", "toString", "Exact", "Random", "Thread",
            "Object", "Exception"};
        for (String word : ruledOut) {
            DUE.that("no word " + word, !Pattern.compile("\\b" + word + "\\b").matcher(code).find());
        }
        DUE.that("no lambda, no method reference", !code.contains("->") && !code.contains("::"));
        DUE.that("no annotation", !code.contains("@"));
        DUE.that("no static block", !Pattern.compile("static\\s*\\{").matcher(code).find());
    }

    private static void library(String code) {
        List<String> listed = List.of("Math.max", "Math.min", "Math.abs", "Integer.bitCount", "System.arraycopy");
        Matcher call = Pattern.compile("\\b(Math|Integer|Long|System|Arrays|String|StringBuilder|List)\\.(\\w+)").matcher(code);
        while (call.find()) {
            DUE.that(call.group() + " is listed", listed.contains(call.group()));
        }
    }

    /** Methods stay short and take at most seven parameters. */
    private static void lengths(String code) {
        String[] lines = code.split("\n", -1);
        Pattern head = Pattern.compile("^( {4}| {8})(?! )[\\w\\[\\] ]*\\b\\w+\\(.*");
        for (int at = 0; at < lines.length; at++) {
            Matcher method = head.matcher(lines[at]);
            if (method.matches() && !lines[at].trim().startsWith("return")) {
                String end = method.group(1) + "}";
                int last = at;
                while (last < lines.length - 1 && !lines[last].equals(end)) {
                    last++;
                }
                DUE.that("line " + (at + 1) + ": some sixty lines", last - at < 60);
                DUE.that("line " + (at + 1) + ": seven parameters", lines[at].split(",", -1).length <= 7);
            }
        }
    }
}
