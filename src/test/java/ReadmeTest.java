import java.io.File;
import java.io.IOException;
import java.lang.reflect.Method;
import java.lang.reflect.Modifier;
import java.nio.file.Files;
import java.nio.file.Path;
import java.util.ArrayList;
import java.util.List;
import java.util.regex.Matcher;
import java.util.regex.Pattern;

/** What README.md says holds; its commands are run by .ci/run. */
public final class ReadmeTest {
    private static final Pattern TYPED = Pattern.compile("for \\(char c : \"(.*)\"\\.toCharArray.*");
    private static final Pattern CALL = Pattern.compile("planner\\.(\\w+\\(.*\\));\\s+// (-?\\d+): .+");

    public static void main(String[] args) throws IOException {
        List<String> lines = Files.readAllLines(Path.of("README.md"));
        code(lines);
        String text = String.join("\n", lines);
        for (Method method : GlassPlanner.class.getDeclaredMethods()) {
            if (Modifier.isPublic(method.getModifiers())) {
                names(text, method.getName());
            }
        }
        String[] files = new File("src/test/java").list();
        Run.due("README", "files of tests", files != null && files.length > 0 ? 1 : 0, 1);
        for (String file : files) {
            names(text, file.replace(".java", ""));
        }
        commands(lines);
        Run.end();
    }

    private static void names(String text, String word) {
        Run.due("README", "whether it names " + word, text.contains("`" + word + "`") ? 1 : 0, 1);
    }

    /** The lines inside the blocks of a kind: "java" or "sh". */
    private static List<String> blocks(List<String> lines, String kind) {
        List<String> found = new ArrayList<>();
        boolean inside = false;
        for (String line : lines) {
            if (line.startsWith("```")) {
                inside = line.equals("```" + kind);
            } else if (inside) {
                found.add(line.trim());
            }
        }
        return found;
    }

    private static void code(List<String> lines) {
        Run run = new Run("README");
        int calls = 0;
        for (String line : blocks(lines, "java")) {
            Matcher typed = TYPED.matcher(line);
            Matcher call = CALL.matcher(line);
            if (typed.matches()) {
                run.type(typed.group(1));
            } else if (call.matches()) {
                run.calls(call.group(1).replace(" ", "") + "=" + call.group(2));
                calls++;
            } else {
                Run.due("README", "whether this is known: " + line, line.equals("}")
                        || line.equals("planner.appendCharacter(c);")
                        || line.startsWith("GlassPlanner planner = new GlassPlanner();") ? 1 : 0, 1);
            }
        }
        Run.due("README", "whether its code has calls", calls > 0 ? 1 : 0, 1);
    }

    /** Building the class and running all tests are among the commands. */
    private static void commands(List<String> lines) {
        List<String> commands = blocks(lines, "sh");
        Run.due("README", "whether .ci/run is a command", commands.contains(".ci/run") ? 1 : 0, 1);
        boolean build = commands.stream().anyMatch(line -> line.startsWith("javac ")
                && line.endsWith(" src/main/java/GlassPlanner.java"));
        Run.due("README", "whether a command builds the class", build ? 1 : 0, 1);
    }
}
