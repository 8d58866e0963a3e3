/** What the description says of edits, of undo and of errors. */
final class UndoSentences {
    private UndoSentences() { }

    static void check() {
        edits();
        noEdits();
        restored();
        latest();
        textStays();
        eight();
        eightOfEachKind();
        precedence();
        constants();
        nothingChanges();
    }

    private static Sentence of(String words) {
        return new Sentence("Description", words);
    }

    private static void edits() {
        Sentence edits = of("The successful calls of loadDrawing, setColour, addCut, removeCut,"
                + " removeLooseCuts, setCellLimit, setCornerLimit and applySplit are edits.")
                .on("0;", 1, "undo()=0 undo()=-2")
                .on("000;000;000;", 1, "undo()=0 undo()=-2")
                .calls("setColour(0,0,1)=0 undo()=0 undo()=-2")
                .calls("addCut(0,0,0)=1 undo()=0 undo()=-2")
                .calls("addCut(0,0,0)=1 removeCut(0,0,0)=0 undo()=1 undo()=0 undo()=-2")
                .calls("addCut(0,0,0)=1 addCut(1,1,0)=2 removeLooseCuts()=2 undo()=2 undo()=1"
                        + " undo()=0 undo()=-2")
                .calls("setCellLimit(8)=12 undo()=0 undo()=-2")
                .calls("setCellLimit(12)=12 undo()=0 undo()=-2")
                .calls("setCornerLimit(0)=1 undo()=0 undo()=-2")
                .calls("setCornerLimit(1)=1 undo()=0 undo()=-2")
                .calls("setCellLimit(1)=12 applySplit(0)=9 undo()=1 undo()=0 undo()=-2");
        edits.calls("setColour(0,0,1)=0 setColour(0,0,0)=1 undo()=1 colourAt(0,0)=1 undo()=0"
                + " colourAt(0,0)=0");
    }

    private static void noEdits() {
        of("The successful calls of")
                .calls("setColour(0,0,0)=-2 setColour(0,0,6)=-1 addCut(0,2,0)=-1"
                        + " removeCut(0,0,0)=-2 removeLooseCuts()=-2 setCellLimit(0)=-1"
                        + " setCellLimit(50)=-1 setCornerLimit(-1)=-1 setCornerLimit(9)=-1"
                        + " applySplit(0)=-2 applySplit(1)=-1 loadDrawing()=-10 undo()=-2")
                .calls("addCut(0,0,0)=1 addCut(0,0,0)=-2 undo()=0 undo()=-2")
                .typed("0", "loadDrawing()=-11 undo()=-2 clearText()=1 undo()=-2")
                .calls("rows()=3 columns()=3 colourAt(0,0)=0 looseCuts()=0 paneCount()=1"
                        + " paneAt(0,0)=0 paneSize(0)=9 innerCorners(0)=0 holes(0)=0 canBeCut(0)=1"
                        + " cuttableCount()=1 neighbourCount(0)=0 leadLength()=0 splitPieces(0)=1"
                        + " splitLead(0)=0 equalNeighbours()=0 colourCount(0)=1"
                        + " suggestedColour(0,0)=0 bestOrder()=0 largestClique()=1 undo()=-2");
    }

    private static void restored() {
        of("undo() restores the drawing, the cuts and the limits as they were before")
                .run().calls("setColour(2,2,4)=0 addCut(1,1,0)=1 setCellLimit(5)=12"
                        + " setCornerLimit(3)=1")
                .load("5;", 1).calls("undo()=4 rows()=3 columns()=3 colourAt(2,2)=4"
                        + " colourAt(0,0)=0 looseCuts()=1 addCut(1,1,0)=-2 setCellLimit(5)=5"
                        + " setCornerLimit(3)=3");
        of("undo() restores the drawing")
                .on("0123451;".repeat(7), 7, "undo()=0 rows()=3 columns()=3 paneCount()=1"
                        + " paneSize(0)=9 colourAt(2,2)=0 colourAt(3,3)=-1")
                .calls("setColour(1,1,2)=0 undo()=0 colourAt(1,1)=0 paneCount()=1");
        of("the cuts")
                .calls("addCut(0,0,1)=1 undo()=0 looseCuts()=0 removeCut(0,0,1)=-2")
                .calls("addCut(0,0,1)=1 removeCut(0,0,1)=0 undo()=1 looseCuts()=1"
                        + " addCut(0,0,1)=-2")
                .calls("addCut(0,0,0)=1 addCut(1,1,1)=2 removeLooseCuts()=2 undo()=2 looseCuts()=2"
                        + " removeCut(0,0,0)=1 removeCut(1,1,1)=0")
                .calls("setCellLimit(3)=12 applySplit(0)=3 undo()=1 paneCount()=1 looseCuts()=0"
                        + " removeCut(0,0,1)=-2 splitPieces(0)=3");
        of("and the limits")
                .calls("setCellLimit(8)=12 canBeCut(0)=0 undo()=0 canBeCut(0)=1"
                        + " setCellLimit(7)=12")
                .on("000;001;", 2, "setCornerLimit(0)=1 canBeCut(0)=0 undo()=1 canBeCut(0)=1"
                        + " setCornerLimit(0)=1");
    }

    private static void latest() {
        of("the latest edit that has not been undone")
                .calls("setColour(0,0,1)=0 setColour(0,1,2)=0 setColour(0,2,3)=0 undo()=2"
                        + " colourAt(0,2)=0 setColour(0,2,4)=0 undo()=2 colourAt(0,2)=0"
                        + " colourAt(0,1)=2 undo()=1 colourAt(0,1)=0 undo()=0 colourAt(0,0)=0"
                        + " undo()=-2")
                .calls("addCut(0,0,0)=1 undo()=0 undo()=-2 looseCuts()=0 addCut(0,0,0)=1 undo()=0"
                        + " looseCuts()=0 undo()=-2");
    }

    private static void textStays() {
        of("it does not affect the text buffer.")
                .run().calls("setColour(0,0,1)=0").type("01;").calls("undo()=0 clearText()=3");
        of("it does not affect the text buffer.")
                .run().load("01;", 2).calls("undo()=0 clearText()=0 loadDrawing()=-10").type("2;")
                .calls("undo()=-2 loadDrawing()=1 colourAt(0,0)=2");
        of("it does not affect the text buffer.")
                .run().load("0;", 1).type("12").calls("undo()=0 appendCharacter(59)=3"
                        + " loadDrawing()=2 colourAt(0,1)=2");
    }

    /** So many edits: they set the cell limit to 20, 21 and so on. */
    private static String edits(int count) {
        StringBuilder script = new StringBuilder();
        for (int i = 0; i < count; i++) {
            script.append(" setCellLimit(").append(20 + i).append(")=")
                    .append(i == 0 ? 12 : 19 + i);
        }
        return script.toString();
    }

    private static void eight() {
        Sentence eight = of("The last 8 edits can be undone.");
        for (int count = 0; count <= 20; count++) {
            Run run = eight.run();
            if (count > 0) {
                run.calls(edits(count));
            }
            for (int left = Math.min(count, 8) - 1; left >= 0; left--) {
                run.calls("undo()=" + left);
            }
            int limit = count <= 8 ? 12 : 19 + count - 8;
            run.calls("undo()=-2 setCellLimit(1)=" + limit + " undo()=0 undo()=-2");
        }
        eight.run().calls(edits(12)).calls("undo()=7 undo()=6 undo()=5 setCellLimit(1)=28"
                + " setCellLimit(2)=1 undo()=6 undo()=5 setCellLimit(3)=28 undo()=5 undo()=4"
                + " undo()=3 undo()=2 undo()=1 undo()=0 undo()=-2 setCellLimit(1)=23");
        eight.run().calls(edits(12)).calls("undo()=7 undo()=6 undo()=5")
                .times(5, "setCornerLimit(1)=1").calls("undo()=7 undo()=6 undo()=5 undo()=4"
                        + " undo()=3 undo()=2 undo()=1 undo()=0 undo()=-2 setCellLimit(1)=25");
        eight.run().calls(edits(8)).calls("setCellLimit(0)=-1 addCut(0,2,0)=-1 rows()=3 undo()=7");
    }

    /** The ninth edit lets the first one go, whichever of the edits it is. */
    private static void eightOfEachKind() {
        Sentence last = of("The last 8 edits");
        String[] ninth = {"setColour(2,2,1)=0", "addCut(1,1,1)=2", "removeCut(0,0,0)=0",
            "removeLooseCuts()=1", "setCellLimit(3)=2", "setCornerLimit(5)=1", "applySplit(0)=5"};
        for (String edit : ninth) {
            last.run().calls("addCut(0,0,0)=1").times(6, "setCornerLimit(1)=1")
                    .calls("setCellLimit(2)=12").calls(edit).calls("undo()=7 undo()=6 undo()=5"
                            + " undo()=4 undo()=3 undo()=2 undo()=1 undo()=0 undo()=-2"
                            + " looseCuts()=1 setCellLimit(1)=12");
        }
        last.run().calls("addCut(0,0,0)=1").times(7, "setCornerLimit(1)=1").load("12;", 2)
                .calls("undo()=7 rows()=3 looseCuts()=1 undo()=6 undo()=5 undo()=4 undo()=3"
                        + " undo()=2 undo()=1 undo()=0 undo()=-2 looseCuts()=1");
    }

    private static void precedence() {
        of("If several errors apply to a call, INVALID_ARGUMENT is returned rather than"
                + " INVALID_STATE, and INVALID_STATE rather than LIMIT_REACHED.")
                .typed("x".repeat(80), "appendCharacter(256)=-1 appendCharacter(-1)=-1"
                        + " appendCharacter(255)=-3 appendCharacter(0)=-3")
                .calls("setColour(3,0,0)=-1 setColour(0,3,0)=-1 setColour(-1,0,0)=-1"
                        + " setColour(0,-1,0)=-1 setColour(0,0,6)=-1 setColour(0,0,0)=-2")
                .calls("addCut(0,1,0)=1 addCut(0,1,0)=-2 addCut(0,1,2)=-1 addCut(0,2,0)=-1"
                        + " removeCut(0,2,0)=-1 removeCut(2,0,1)=-1 removeCut(0,0,2)=-1"
                        + " removeCut(0,0,1)=-2")
                .calls("applySplit(1)=-1 applySplit(-1)=-1 applySplit(0)=-2");
    }

    private static void constants() {
        of("The constants: - `INVALID_ARGUMENT = -1`: An argument is out of its range.")
                .calls("setCellLimit(0)=-1 colourCount(3)=-1 paneSize(1)=-1");
        of("`INVALID_STATE = -2`: The call is not possible in the present state.")
                .calls("undo()=-2 removeLooseCuts()=-2 applySplit(0)=-2");
        of("`LIMIT_REACHED = -3`: A capacity is exhausted.")
                .typed("0".repeat(80), "appendCharacter(48)=-3");
        Run.due("the constants", "INVALID_ARGUMENT", GlassPlanner.INVALID_ARGUMENT, -1);
        Run.due("the constants", "INVALID_STATE", GlassPlanner.INVALID_STATE, -2);
        Run.due("the constants", "LIMIT_REACHED", GlassPlanner.LIMIT_REACHED, -3);
    }

    /** RefusalTest looks at more states, and at everything that can be asked. */
    private static void nothingChanges() {
        of("A call that returns an error changes nothing.")
                .run().calls("setColour(1,1,2)=0 addCut(0,0,0)=1").type("01;2")
                .calls("loadDrawing()=-14 setColour(1,1,2)=-2 setColour(1,1,6)=-1 addCut(0,0,0)=-2"
                        + " addCut(0,0,2)=-1 removeCut(1,1,0)=-2 removeCut(2,2,0)=-1"
                        + " setCellLimit(50)=-1 setCornerLimit(9)=-1 applySplit(1)=-2"
                        + " applySplit(2)=-1 appendCharacter(256)=-1 rows()=3 colourAt(1,1)=2"
                        + " looseCuts()=1 paneCount()=2 appendCharacter(51)=5 undo()=1 undo()=0"
                        + " undo()=-2 appendCharacter(59)=6 loadDrawing()=4 setCellLimit(1)=12"
                        + " setCornerLimit(1)=1");
    }
}
