import java.lang.reflect.Method;
import java.lang.reflect.Modifier;
import java.nio.file.Files;
import java.nio.file.Path;
import java.util.ArrayList;
import java.util.List;
import java.util.regex.Matcher;
import java.util.regex.Pattern;

/** What README.md tells: the answers of its examples, and a word on every call. */
public final class ReadmeTest {
    private static final Pattern TOLD = Pattern.compile("(new FirstAtTheFirst\\(\\))|\"([^\"]*)\"\\.toCharArray\\(\\)"
            + "|x\\.(\\w+)\\(([^)]*)\\);\\s*// (-?\\d+)");

    private static String argument(String args) {
        String plain = args.replace(" ", "").replace("FirstAtTheFirst.", "");
        return plain.matches("'.'") ? Integer.toString(plain.charAt(1)) : plain;
    }

    /** Each example as a text for Script; a new one begins where an object is made. */
    private static List<String> examples(String readme) {
        List<String> found = new ArrayList<>();
        StringBuilder script = new StringBuilder();
        for (String block : readme.split("```")) {
            Matcher m = TOLD.matcher(block.startsWith("java\n") ? block : "");
            while (m.find()) {
                if (m.group(1) != null) {
                    script = new StringBuilder();
                } else if (m.group(2) != null) {
                    script.append(" '").append(m.group(2)).append("'");
                } else {
                    String call = m.group(3) + "(" + argument(m.group(4)) + ")";
                    script.append(" ").append(call).append("=").append(m.group(5));
                }
            }
            if (script.length() > 0) {
                found.add(script.toString());
                script = new StringBuilder();
            }
        }
        return found;
    }

    public static void main(String[] args) throws Exception {
        Due.mustEndWithin(300);
        Due due = new Due("ReadmeTest");
        String readme = Files.readString(Path.of("README.md"));
        List<String> examples = examples(readme);
        due.due("how many examples", examples.size(), 3);
        for (String example : examples) {
            new Script(example).run(due, "README.md");
        }
        for (Method m : FirstAtTheFirst.class.getDeclaredMethods()) {
            if (Modifier.isPublic(m.getModifiers())) {
                due.that(m.getName() + " is told", readme.contains("`" + m.getName() + "("));
            }
        }
        due.end();
    }
}
