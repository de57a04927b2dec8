import java.nio.charset.StandardCharsets;
import java.nio.file.Files;
import java.nio.file.Path;
import java.nio.file.Paths;
import java.util.regex.Matcher;
import java.util.regex.Pattern;

/** Rules of LANGUAGE.md that can be seen in the source by its words; the first argument is the source's path. */
public final class LanguageTest {
    private static final String[] FORBIDDEN_WORDS = {"throw", "throws", "try", "catch", "finally", "synchronized", "assert", "volatile",
        "transient", "native", "instanceof", "package", "protected", "Object", "Thread", "Random", "equals", "hashCode", "toString",
        "NaN", "double", "float", "goto", "var", "yield", "record", "sealed", "lambda"};
    private static final String[] FORBIDDEN_SIGNS = {"->", "::", "Exact(", "System.out", "System.err", "System.exit", "System.nano",
        "System.current", "Long.MAX", "Integer.MAX", "new Object", "@"};

    public static void main(String[] args) throws Exception {
        Path path = Paths.get(args.length > 0 ? args[0] : "src/main/java/EpisodeProbes.java");
        String source = new String(Files.readAllBytes(path), StandardCharsets.UTF_8);
        for (int i = 0; i < source.length(); i++) {
            if (source.charAt(i) > 126) Check.holds("sign " + i + " is plain", false);
        }
        String bare = withoutComments(source);
        for (String word : FORBIDDEN_WORDS) {
            Check.holds("the word " + word + " does not stand there", !Pattern.compile("\\b" + word + "\\b").matcher(bare).find());
        }
        for (String sign : FORBIDDEN_SIGNS) Check.holds(sign + " does not stand there", !bare.contains(sign));
        Check.holds("texts are not joined by +", !Pattern.compile("\"\\s*\\+|\\+\\s*\"").matcher(bare).find());
        imports(bare);
        makesArraysInConstructorsAlone(bare);
        methodLengths(source);
        Check.end("LanguageTest");
    }

    private static String withoutComments(String source) {
        return source.replaceAll("(?s)/\\*.*?\\*/", " ").replaceAll("//[^\n]*", " ");
    }

    private static void imports(String bare) {
        Matcher m = Pattern.compile("(?m)^import (.*);$").matcher(bare);
        while (m.find()) Check.holds("import " + m.group(1), m.group(1).equals("java.util.Arrays"));
        Check.holds("System is used for arraycopy alone", !bare.replace("System.arraycopy", "").contains("System"));
        Check.holds("Arrays is used for fill alone", !bare.replace("Arrays.fill", "").replace("java.util.Arrays", "").contains("Arrays"));
        Check.holds("Math is used for min, max, abs", !bare.replaceAll("Math\\.(min|max|abs)", "").contains("Math"));
    }

    /** No call makes an object: all that is made stands in a constructor. */
    private static void makesArraysInConstructorsAlone(String bare) {
        String method = "";
        for (String line : bare.split("\n")) {
            Matcher head = Pattern.compile("^ {4,8}(?:public |private |static |final )*(.*?)(\\w+)\\(.*\\{$").matcher(line);
            if (head.find()) method = head.group(1).isEmpty() ? "a constructor" : head.group(2);
            if (Pattern.compile("\\bnew\\b").matcher(line).find()) {
                Check.holds("new stands in a constructor, not in " + method, method.equals("a constructor"));
            }
        }
    }

    private static void methodLengths(String source) {
        String[] lines = source.split("\n");
        int begin = -1;
        for (int i = 0; i < lines.length; i++) {
            if (Pattern.compile("^ {4,8}\\S.*\\(.*\\) \\{$").matcher(lines[i]).find()) begin = i;
            if (begin >= 0 && Pattern.compile("^ {4,8}\\}$").matcher(lines[i]).find()) {
                Check.holds("the method in line " + (begin + 1) + " is short", i - begin < 60);
                begin = -1;
            }
        }
    }
}
