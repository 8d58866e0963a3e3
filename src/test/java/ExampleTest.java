import java.io.IOException;
import java.util.ArrayList;
import java.util.List;
import java.util.regex.Matcher;
import java.util.regex.Pattern;

/** The four examples of the document, which is looked at for whether they still stand there so. */
public final class ExampleTest {
    private static final Pattern CALL = Pattern.compile("(\\w+\\([^)]*\\)) = (-?\\d+)");

    private static final List<String> EXAMPLES = List.of(
            "setColour(1,1,3)=0 paneCount()=2 holes(0)=1 innerCorners(0)=4 canBeCut(0)=0"
                    + " splitPieces(0)=3 splitLead(0)=3 applySplit(0)=4 paneCount()=4"
                    + " cuttableCount()=4",
            "appendCharacter(48)=1 appendCharacter(48)=2 appendCharacter(49)=3"
                    + " appendCharacter(59)=4 appendCharacter(48)=5 appendCharacter(49)=6"
                    + " appendCharacter(49)=7 appendCharacter(59)=8 loadDrawing()=2 paneAt(1,1)=1"
                    + " leadLength()=3 addCut(0,0,0)=1 paneCount()=3 equalNeighbours()=1",
            "addCut(0,0,0)=1 looseCuts()=1 paneCount()=1 removeLooseCuts()=1 addCut(0,2,0)=-1",
            "setCellLimit(3)=12 splitPieces(0)=3 splitLead(0)=6 applySplit(0)=3 colourCount(0)=2"
                    + " suggestedColour(0,1)=1 largestClique()=2 applySplit(0)=-2");

    public static void main(String[] args) throws IOException {
        for (String example : EXAMPLES) {
            new Run("example " + (EXAMPLES.indexOf(example) + 1)).calls(example);
        }
        if (Document.isThere()) {
            List<String> written = written();
            Run.due("examples", "the document's being " + written, written.equals(EXAMPLES) ? 1 : 0,
                    1);
        }
        Run.end();
    }

    private static List<String> written() throws IOException {
        List<String> examples = new ArrayList<>();
        for (String line : Document.section("Description")) {
            if (line.matches("\\d+\\. .*")) {
                List<String> steps = new ArrayList<>();
                for (Matcher call = CALL.matcher(line); call.find();) {
                    steps.add(call.group(1) + "=" + call.group(2));
                }
                examples.add(String.join(" ", steps));
            }
        }
        return examples;
    }
}
