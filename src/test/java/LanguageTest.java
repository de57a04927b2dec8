import java.nio.charset.StandardCharsets;
import java.nio.file.Files;
import java.nio.file.Path;
import java.nio.file.Paths;
import java.util.Arrays;
import java.util.List;
import java.util.regex.Matcher;
import java.util.regex.Pattern;

/** Rules of LANGUAGE.md that can be seen in the source by its words; the first argument is the source's path. */
public final class LanguageTest {
    private static final String[] FORBIDDEN_WORDS = {"throw", "throws", "try", "catch", "finally", "synchronized", "assert", "volatile",
        "transient", "native", "package", "protected", "Object", "Thread", "Random", "hashCode", "NaN", "Exception", "Error", "Class",
        "Runnable", "Stream", "Map", "Set", "HashMap", "HashSet", "LinkedList", "ArrayDeque", "BigInteger", "BigDecimal"};
    private static final String[] FORBIDDEN_SIGNS = {"->", "::", "Exact(", "Long.MAX", "Long.MIN", "Integer.MAX", "Integer.MIN"};
    private static final List<String> IMPORTS =
            Arrays.asList("java.util.Arrays", "java.util.ArrayList", "java.util.List", "java.util.Iterator");
    private static final int SHORT_METHOD = 60;

    public static void main(String[] args) throws Exception {
        Path path = Paths.get(args.length > 0 ? args[0] : "src/main/java/EpisodeProbes.java");
        String source = new String(Files.readAllBytes(path), StandardCharsets.UTF_8);
        String bare = withoutComments(source);
        signs(bare);
        for (String word : FORBIDDEN_WORDS) {
            Check.holds("the word " + word + " does not stand there", !Pattern.compile("\\b" + word + "\\b").matcher(bare).find());
        }
        for (String sign : FORBIDDEN_SIGNS) Check.holds(sign + " does not stand there", !bare.contains(sign));
        Check.holds("texts are not joined by +", !Pattern.compile("\"\\s*\\+|\\+\\s*\"").matcher(bare).find());
        Check.holds("equals and toString are not declared", !Pattern.compile("\\b(boolean equals|String toString)\\s*\\(").matcher(bare).find());
        Check.holds("no static initialiser block", !Pattern.compile("\\bstatic\\s*\\{").matcher(bare).find());
        library(bare);
        methodLengths(source);
        Check.end("LanguageTest");
    }

    private static String withoutComments(String source) {
        return source.replaceAll("(?s)/\\*.*?\\*/", " ").replaceAll("//[^\n]*", " ");
    }

    private static void signs(String bare) {
        for (int i = 0; i < bare.length(); i++) {
            if (bare.charAt(i) > 127) Check.holds("sign " + i + " is 1 to 127", false);
        }
    }

    private static void library(String bare) {
        Matcher m = Pattern.compile("(?m)^import (.*);$").matcher(bare);
        while (m.find()) Check.holds("import " + m.group(1), IMPORTS.contains(m.group(1)));
        uses(bare, "System", "arraycopy");
        uses(bare.replace("java.util.Arrays", ""), "Arrays", "fill|copyOf|copyOfRange");
        uses(bare, "Math", "\\w+");
    }

    /** Behind this name there stand none but these functions. */
    private static void uses(String bare, String name, String functions) {
        String rest = bare.replaceAll("\\b" + name + "\\.(" + functions + ")\\(", "");
        Check.holds(name + " is used for " + functions + " alone", !Pattern.compile("\\b" + name + "\\b").matcher(rest).find());
    }

    private static void methodLengths(String source) {
        String[] lines = source.split("\n");
        int begin = -1;
        for (int i = 0; i < lines.length; i++) {
            if (Pattern.compile("^ {4,8}\\S.*\\(.*\\) \\{$").matcher(lines[i]).find()) begin = i;
            if (begin >= 0 && Pattern.compile("^ {4,8}\\}$").matcher(lines[i]).find()) {
                Check.holds("the method in line " + (begin + 1) + " is short", i - begin < SHORT_METHOD);
                begin = -1;
            }
        }
    }
}
