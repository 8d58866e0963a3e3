import java.io.IOException;
import java.nio.file.Files;
import java.nio.file.Path;
import java.util.ArrayList;
import java.util.List;

/** The document, ../shared/DOC.md, as it is seen from the project's folder. */
final class Document {
    private static final Path PLACE = Path.of("../shared/DOC.md");

    private Document() { }

    /** Tests that look at the document itself leave that out where it is missing, and say so. */
    static boolean isThere() {
        boolean there = Files.exists(PLACE);
        if (!there) {
            System.out.println("not looked at, since it is not there: " + PLACE);
        }
        return there;
    }

    static List<String> lines() throws IOException {
        return Files.readAllLines(PLACE);
    }

    /** The lines between a line that begins so and the next heading. */
    static List<String> section(String heading) throws IOException {
        List<String> found = new ArrayList<>();
        boolean inside = false;
        for (String line : lines()) {
            if (line.startsWith("## ")) {
                inside = line.startsWith("## " + heading);
            } else if (inside) {
                found.add(line);
            }
        }
        return found;
    }
}
