import java.io.File;
import java.lang.reflect.Field;
import java.lang.reflect.Modifier;
import java.nio.charset.StandardCharsets;
import java.nio.file.Files;
import java.nio.file.Paths;
import java.util.regex.Matcher;
import java.util.regex.Pattern;

/** README.md: its examples answer what it says, and it leaves out no method, no error and no test. */
public final class ReadmeTest {
    private static final Pattern TEXT = Pattern.compile("String \\w+ = \"([^\"]*)\";");
    private static final Pattern CALL = Pattern.compile("probes\\.(\\w+)\\(([-0-9, ]*)\\);\\s*// = (-?\\d+)");

    private static Probes probes = null;
    private static String text = "";
    private static int answers = 0;

    public static void main(String[] args) throws Exception {
        String page = new String(Files.readAllBytes(Paths.get("README.md")), StandardCharsets.UTF_8);
        examples(page);
        methods(page);
        errors(page);
        tests(page);
        Check.end("ReadmeTest");
    }

    private static void examples(String page) {
        boolean inExample = false;
        for (String line : page.split("\n")) {
            if (line.startsWith("```")) inExample = line.equals("```java");
            else if (inExample) follow(line);
        }
        Check.due("answers that the page does not show", count(page, "// = ") - answers, 0);
    }

    /** Does what a line of an example does. */
    private static void follow(String line) {
        Matcher typed = TEXT.matcher(line), call = CALL.matcher(line);
        if (line.contains("new EpisodeProbes()")) probes = new Probes();
        else if (typed.find()) text = typed.group(1);
        else if (line.startsWith("for ")) Check.typed(probes, text);
        else if (call.find()) answer(line, call);
        else Check.holds("a line that can be followed: " + line, line.isBlank());
    }

    private static void answer(String line, Matcher call) {
        String[] numbers = call.group(2).isEmpty() ? new String[0] : call.group(2).split(", ");
        int[] made = new int[1 + numbers.length];
        made[0] = numberOf(call.group(1));
        Check.due("parameters of " + line, numbers.length, Probes.parameters(made[0]));
        for (int i = 0; i < numbers.length; i++) made[i + 1] = Integer.parseInt(numbers[i]);
        Check.due(line, probes.call(made), Long.parseLong(call.group(3)));
        answers++;
    }

    private static int numberOf(String name) {
        for (int method = 0; method < Probes.methods(); method++) {
            if (Probes.name(method).equals(name)) return method;
        }
        throw new IllegalStateException("README.md calls " + name + ", which is no method");
    }

    private static int count(String page, String sign) {
        return (page.length() - page.replace(sign, "").length()) / sign.length();
    }

    private static void methods(String page) {
        for (int method = 0; method < Probes.methods(); method++) {
            String name = Probes.name(method);
            Check.holds("the method " + name + " is named", Pattern.compile("(\\.|`)" + name + "(\\(|`)").matcher(page).find());
        }
    }

    private static void errors(String page) throws IllegalAccessException {
        for (Field f : EpisodeProbes.class.getDeclaredFields()) {
            if (!Modifier.isPublic(f.getModifiers())) continue;
            String name = f.getName();
            int answer = f.getInt(null);
            boolean isNamed = page.contains("| `" + name + "` | " + answer + " |") || page.contains("`" + name + "` (" + answer + ")");
            Check.holds(name + " is named with its number " + answer, isNamed);
        }
    }

    private static void tests(String page) {
        String[] files = new File("src/test/java").list();
        Check.holds("there are tests", files != null && files.length > 0);
        if (files == null) return;
        for (String file : files) {
            if (!file.endsWith("Test.java")) continue;
            String name = file.substring(0, file.length() - ".java".length());
            Check.holds("the test " + name + " is named", page.contains("`" + name + "`"));
        }
    }
}
