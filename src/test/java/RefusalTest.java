import java.util.ArrayList;
import java.util.List;

/**
 * A refused call changes nothing, and neither does a question: of two planners with the same past,
 * one gets the call and the other one doesn't, and then no later answer tells them apart.
 */
public final class RefusalTest {
    private static final int MOST_UNDONE = 9;

    private static final String NEW = "";
    private static final String BUSY = "setColour(1,1,3)=0 addCut(0,0,0)=1 setCellLimit(5)=12"
            + " setCornerLimit(0)=1 addCut(0,1,1)=2 appendCharacter(48)=1 appendCharacter(49)=2"
            + " appendCharacter(59)=3 appendCharacter(50)=4";
    private static final String LOADED = "appendCharacter(48)=1 appendCharacter(49)=2"
            + " appendCharacter(59)=3 appendCharacter(49)=4 appendCharacter(49)=5"
            + " appendCharacter(59)=6 loadDrawing()=2 addCut(1,0,0)=1 undo()=1 undo()=0";
    private static final String FULL = "setColour(0,0,1)=0 setColour(0,1,2)=0 addCut(1,1,0)=1"
            + " addCut(0,0,1)=2 setCellLimit(6)=12 setCornerLimit(2)=1 setColour(2,2,5)=0"
            + " addCut(1,1,1)=3 setColour(2,0,4)=0 setCellLimit(7)=6 appendCharacter(51)=1"
            + " appendCharacter(52)=2 appendCharacter(59)=3" + spaces(4, 80);

    /** Calls that are refused in every state of a drawing with 3 rows and 3 columns. */
    private static final String REFUSED = "appendCharacter(-1)=-1 appendCharacter(256)=-1"
            + " setColour(-1,0,1)=-1 setColour(3,0,1)=-1 setColour(0,-1,1)=-1 setColour(0,3,1)=-1"
            + " setColour(0,0,-1)=-1 setColour(0,0,6)=-1 colourAt(-1,0)=-1 colourAt(0,3)=-1"
            + " addCut(0,2,0)=-1 addCut(2,0,1)=-1 addCut(0,0,2)=-1 addCut(0,0,-1)=-1"
            + " addCut(-1,0,0)=-1 addCut(0,-1,1)=-1 removeCut(0,2,0)=-1 removeCut(2,0,1)=-1"
            + " removeCut(0,0,2)=-1 removeCut(0,0,-1)=-1 removeCut(3,0,0)=-1 paneAt(3,0)=-1"
            + " paneAt(0,-1)=-1 paneSize(-1)=-1 paneSize(49)=-1 innerCorners(49)=-1 holes(49)=-1"
            + " canBeCut(49)=-1 neighbourCount(49)=-1 setCellLimit(0)=-1 setCellLimit(50)=-1"
            + " setCornerLimit(-1)=-1 setCornerLimit(9)=-1 splitPieces(-1)=-1 splitPieces(49)=-1"
            + " splitLead(-1)=-1 splitLead(49)=-1 applySplit(-1)=-1 applySplit(49)=-1"
            + " colourCount(-1)=-1 colourCount(3)=-1 suggestedColour(3,0)=-1"
            + " suggestedColour(0,49)=-1 ";

    public static void main(String[] args) {
        check(NEW, REFUSED + "setColour(0,0,0)=-2 removeCut(0,0,0)=-2 removeCut(1,1,1)=-2"
                + " removeLooseCuts()=-2 applySplit(0)=-2 undo()=-2 loadDrawing()=-10");
        check(BUSY, REFUSED + "setColour(1,1,3)=-2 addCut(0,0,0)=-2 addCut(0,1,1)=-2"
                + " removeCut(0,0,1)=-2 applySplit(1)=-2 loadDrawing()=-14");
        check(LOADED, REFUSED + "setColour(0,0,0)=-2 removeCut(1,0,0)=-2 removeLooseCuts()=-2"
                + " applySplit(0)=-2 undo()=-2 loadDrawing()=-10");
        check(FULL, REFUSED + "appendCharacter(48)=-3 appendCharacter(0)=-3 setColour(2,2,5)=-2"
                + " addCut(1,1,1)=-2 removeCut(0,0,0)=-2 applySplit(0)=-2");
        for (String past : new String[] {NEW, BUSY, LOADED, FULL}) {
            check(past, String.join(" ", asked(past, questions(past))));
        }
        Run.end();
    }

    private static String spaces(int from, int to) {
        StringBuilder script = new StringBuilder();
        for (int length = from; length <= to; length++) {
            script.append(" appendCharacter(32)=").append(length);
        }
        return script.toString();
    }

    private static Run begin(String past) {
        Run run = new Run("after " + past);
        return past.isEmpty() ? run : run.calls(past);
    }

    /** Each of the calls alone, and then all of them together. */
    private static void check(String past, String calls) {
        for (String call : calls.trim().split("\\s+")) {
            compare(past, call);
        }
        compare(past, calls);
    }

    private static void compare(String past, String calls) {
        for (int undone = 0; undone <= MOST_UNDONE; undone++) {
            for (Probe probe : Probe.values()) {
                Run plain = begin(past);
                Run asked = begin(past).calls(calls);
                for (int i = 0; i < undone; i++) {
                    same(past, calls, "undo()", plain, asked);
                }
                for (String call : probes(probe, plain)) {
                    same(past, calls, call, plain, asked);
                }
            }
        }
    }

    private static void same(String past, String calls, String call, Run plain, Run asked) {
        int due = plain.ask(call);
        Run.due("after " + past + " and then " + calls, call, asked.ask(call), due);
    }

    private enum Probe { QUESTIONS, CUTS, LIMITS, TEXT }

    private static List<String> probes(Probe probe, Run plain) {
        return switch (probe) {
            case QUESTIONS -> questions(plain.ask("rows()"), plain.ask("columns()"));
            case CUTS -> cuts();
            case LIMITS -> List.of("setCellLimit(1)", "setCornerLimit(8)", "undo()", "undo()");
            case TEXT -> List.of("appendCharacter(51)", "appendCharacter(59)", "loadDrawing()",
                    "rows()", "columns()", "colourAt(0,0)", "colourAt(0,1)", "colourAt(1,0)",
                    "colourAt(1,1)", "clearText()", "undo()");
        };
    }

    /** A cut that is refused is there already: questions alone don't tell that everywhere. */
    private static List<String> cuts() {
        List<String> list = new ArrayList<>();
        for (int row = 0; row < 3; row++) {
            for (int column = 0; column < 3; column++) {
                list.add("addCut(" + row + "," + column + ",0)");
                list.add("addCut(" + row + "," + column + ",1)");
            }
        }
        return list;
    }

    private static List<String> questions(String past) {
        Run run = begin(past);
        return questions(run.ask("rows()"), run.ask("columns()"));
    }

    private static List<String> questions(int rows, int columns) {
        List<String> list = new ArrayList<>(List.of("rows()", "columns()", "looseCuts()",
                "paneCount()", "cuttableCount()", "leadLength()", "equalNeighbours()",
                "bestOrder()", "largestClique()", "colourCount(0)", "colourCount(1)",
                "colourCount(2)"));
        for (int row = 0; row < rows; row++) {
            for (int column = 0; column < columns; column++) {
                list.add("colourAt(" + row + "," + column + ")");
                list.add("paneAt(" + row + "," + column + ")");
            }
        }
        for (int pane = 0; pane < rows * columns; pane++) {
            for (String method : List.of("paneSize", "innerCorners", "holes", "canBeCut",
                    "neighbourCount", "splitPieces", "splitLead")) {
                list.add(method + "(" + pane + ")");
            }
            for (int order = 0; order < 3; order++) {
                list.add("suggestedColour(" + order + "," + pane + ")");
            }
        }
        return list;
    }

    /** The questions with the answers that they get, so that a script can be made of them. */
    private static List<String> asked(String past, List<String> questions) {
        List<String> steps = new ArrayList<>();
        for (String question : questions) {
            steps.add(question + "=" + begin(past).ask(question));
        }
        return steps;
    }
}
