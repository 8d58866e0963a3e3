/** What each promise says: its arguments' bounds, its answer and its errors. */
final class PromiseSentences {
    private static final String FULL = "0000000;".repeat(7);
    private static final String CHECKERED = "0101010;1010101;".repeat(3) + "0101010;";
    private static final String EXTREMES = " %1$s(-2147483648)=-1 %1$s(2147483647)=-1";

    private PromiseSentences() { }

    static void check() {
        newObject();
        appendCharacter();
        clearText();
        loadDrawing();
        setColour();
        rowsAndColumns();
        colourAt();
        addCut();
        removeCut();
        looseCuts();
        removeLooseCuts();
        paneCountAndPaneAt();
        questionsOfPanes();
        cuttableCount();
        leadLength();
        setCellLimit();
        setCornerLimit();
        splitPieces();
        splitLead();
        applySplit();
        equalNeighbours();
        colourCount();
        suggestedColour();
        bestOrder();
        largestClique();
        undo();
    }

    private static Sentence of(int promise, String words) {
        return new Sentence("Promise " + promise, words);
    }

    private static void newObject() {
        of(1, "The initial drawing and limits").calls("rows()=3 columns()=3 paneCount()=1"
                + " paneSize(0)=9 looseCuts()=0 leadLength()=0 setCellLimit(1)=12"
                + " setCornerLimit(0)=1");
        of(1, "an empty text buffer").calls("clearText()=0").calls("loadDrawing()=-10")
                .calls("appendCharacter(48)=1");
        of(1, "nothing to undo").calls("undo()=-2").calls("setCellLimit(1)=12 undo()=0 undo()=-2");
    }

    private static void appendCharacter() {
        of(2, "Appends a character to the text buffer.")
                .calls("appendCharacter(53)=1 appendCharacter(59)=2 loadDrawing()=1"
                        + " colourAt(0,0)=5");
        of(2, "`character`: its code, 0 to 255").calls("appendCharacter(0)=1 clearText()=1"
                + " appendCharacter(255)=1 loadDrawing()=-10 clearText()=1 appendCharacter(128)=1");
        Sentence length = of(2, "Returns the new length of the buffer");
        length.typed("0".repeat(79), "appendCharacter(48)=80 clearText()=80 appendCharacter(48)=1");
        length.run().load("0;", 1).calls("appendCharacter(48)=1");
        of(2, "INVALID_ARGUMENT if the code is out of range").calls("appendCharacter(-1)=-1"
                + " appendCharacter(256)=-1 appendCharacter(-2147483648)=-1"
                + " appendCharacter(2147483647)=-1 appendCharacter(304)=-1 clearText()=0");
        of(2, "LIMIT_REACHED if the buffer holds 80 characters.")
                .typed("0".repeat(79), "appendCharacter(59)=80 appendCharacter(59)=-3"
                        + " appendCharacter(0)=-3 appendCharacter(255)=-3 clearText()=80"
                        + " appendCharacter(59)=1")
                .typed("0;" + " ".repeat(78), "appendCharacter(49)=-3 loadDrawing()=1"
                        + " appendCharacter(49)=1");
    }

    private static void clearText() {
        of(3, "Empties the text buffer.").typed("12", "clearText()=2 loadDrawing()=-10"
                + " appendCharacter(51)=1 appendCharacter(59)=2 loadDrawing()=1 columns()=1"
                + " colourAt(0,0)=3");
        of(3, "Returns the length that it had.").calls("clearText()=0 clearText()=0")
                .typed("x", "clearText()=1 clearText()=0").typed(" ".repeat(80), "clearText()=80")
                .on("0;", 1, "clearText()=0").typed("0", "loadDrawing()=-11 clearText()=1");
    }

    private static void loadDrawing() {
        of(4, "Replaces the drawing by that of the text buffer")
                .on("12;34;50;", 6, "rows()=3 columns()=2 colourAt(0,0)=1 colourAt(0,1)=2"
                        + " colourAt(1,0)=3 colourAt(1,1)=4 colourAt(2,0)=5 colourAt(2,1)=0"
                        + " colourAt(0,2)=-1");
        of(4, "removes all cuts").run().calls("addCut(0,0,0)=1 addCut(1,1,1)=2")
                .load("000;000;000;", 1).calls("looseCuts()=0 removeCut(0,0,0)=-2"
                        + " removeCut(1,1,1)=-2 addCut(2,1,0)=1");
        of(4, "and empties the buffer.").on("01;", 2, "clearText()=0")
                .on("01;", 2, "loadDrawing()=-10 appendCharacter(48)=1");
        of(4, "The limits stay.").run().calls("setCellLimit(49)=12 setCornerLimit(0)=1")
                .load("00;01;", 2).calls("canBeCut(0)=0 setCellLimit(12)=49 setCornerLimit(1)=0");
        of(4, "Returns the number of panes").on("0;", 1, "paneCount()=1")
                .on(FULL, 1, "paneCount()=1").on(CHECKERED, 49, "paneCount()=49");
        of(4, "-10 minus the error offset if the text is in error").calls("loadDrawing()=-10")
                .typed("01;0;", "loadDrawing()=-14").typed(" ".repeat(80), "loadDrawing()=-90");
        of(4, "(nothing changes then, the buffer is kept).").run()
                .calls("setColour(0,0,5)=0 addCut(0,0,0)=1 setCellLimit(4)=12").type("11;1x")
                .calls("loadDrawing()=-14 loadDrawing()=-14 rows()=3 columns()=3 colourAt(0,0)=5"
                        + " addCut(0,0,0)=-2 setCellLimit(4)=4 undo()=3 clearText()=5");
    }

    private static void setColour() {
        of(5, "Sets the colour of a cell.").calls("setColour(0,0,1)=0 setColour(0,2,2)=0"
                + " setColour(2,0,3)=0 setColour(2,2,4)=0 colourAt(0,0)=1 colourAt(0,2)=2"
                + " colourAt(2,0)=3 colourAt(2,2)=4 colourAt(1,1)=0 paneCount()=5");
        of(5, "Cuts stay.").calls("addCut(0,0,0)=1 addCut(0,0,1)=2 setColour(0,0,1)=0"
                + " addCut(0,0,0)=-2 addCut(0,0,1)=-2 setColour(0,0,0)=1 paneCount()=2"
                + " removeCut(0,0,0)=1 removeCut(0,0,1)=0");
        of(5, "`row`: an existing row").calls("setColour(-1,0,1)=-1 setColour(0,0,1)=0"
                + " setColour(2,0,1)=0 setColour(3,0,1)=-1")
                .on("0;", 1, "setColour(1,0,1)=-1 setColour(0,0,1)=0")
                .on(FULL, 1, "setColour(7,6,1)=-1 setColour(6,6,1)=0");
        of(5, "`column`: an existing column").calls("setColour(0,-1,1)=-1 setColour(0,0,1)=0"
                + " setColour(0,2,1)=0 setColour(0,3,1)=-1")
                .on("0;", 1, "setColour(0,1,1)=-1 setColour(0,0,1)=0")
                .on(FULL, 1, "setColour(6,7,1)=-1 setColour(6,6,1)=0");
        of(5, "`colour`: 0 to 5").calls("setColour(1,1,-1)=-1 setColour(1,1,6)=-1"
                + " setColour(1,1,5)=0 setColour(1,1,0)=5");
        of(5, "Returns the previous colour").calls("setColour(1,1,5)=0 setColour(1,1,3)=5"
                + " setColour(1,1,0)=3 setColour(1,1,1)=0");
        of(5, "INVALID_ARGUMENT if an argument is out of range").calls("setColour(3,3,6)=-1"
                + " setColour(-2147483648,0,0)=-1 setColour(0,2147483647,0)=-1"
                + " setColour(0,0,2147483647)=-1 setColour(0,0,-2147483648)=-1 paneCount()=1");
        of(5, "INVALID_STATE if the cell has this colour.").calls("setColour(0,0,0)=-2"
                + " setColour(0,0,5)=0 setColour(0,0,5)=-2 setColour(2,2,0)=-2 undo()=0");
    }

    private static void rowsAndColumns() {
        of(6, "Returns the number of rows.").calls("rows()=3").on("0;", 1, "rows()=1")
                .on("0000000;", 1, "rows()=1").on("0;0;0;0;0;0;0;", 1, "rows()=7 undo()=0 rows()=3");
        of(7, "Returns the number of columns.").calls("columns()=3").on("0;", 1, "columns()=1")
                .on("0;0;0;0;0;0;0;", 1, "columns()=1")
                .on("0000000;", 1, "columns()=7 undo()=0 columns()=3");
    }

    private static void colourAt() {
        of(8, "`row`: an existing row").calls("colourAt(-1,0)=-1 colourAt(0,0)=0 colourAt(2,0)=0"
                + " colourAt(3,0)=-1");
        of(8, "`column`: an existing column").calls("colourAt(0,-1)=-1 colourAt(0,0)=0"
                + " colourAt(0,2)=0 colourAt(0,3)=-1");
        of(8, "Returns the colour of the cell").on("012;345;", 6, "colourAt(0,0)=0 colourAt(0,2)=2"
                + " colourAt(1,0)=3 colourAt(1,2)=5");
        of(8, "INVALID_ARGUMENT if there is no such cell.")
                .on("012;345;", 6, "colourAt(2,0)=-1 colourAt(0,3)=-1 colourAt(2,3)=-1"
                        + " colourAt(-2147483648,0)=-1 colourAt(0,2147483647)=-1");
    }

    private static void addCut() {
        of(9, "Makes the cut (row, column, side).").calls("addCut(1,1,0)=1 addCut(1,1,1)=2"
                + " looseCuts()=2 addCut(1,0,0)=3 addCut(0,1,1)=4 looseCuts()=0 paneAt(1,1)=1");
        of(9, "`row`: row of a cell").calls("addCut(-1,0,0)=-1 addCut(-1,0,1)=-1 addCut(0,0,0)=1"
                + " addCut(2,0,0)=2 addCut(3,0,0)=-1 addCut(1,0,1)=3 addCut(2,0,1)=-1"
                + " addCut(3,0,1)=-1");
        of(9, "`column`: column of a cell").calls("addCut(0,-1,0)=-1 addCut(0,-1,1)=-1"
                + " addCut(0,0,1)=1 addCut(0,2,1)=2 addCut(0,3,1)=-1 addCut(0,1,0)=3"
                + " addCut(0,2,0)=-1 addCut(0,3,0)=-1");
        of(9, "`side`: 0 or 1").calls("addCut(0,0,-1)=-1 addCut(0,0,0)=1 addCut(0,0,1)=2"
                + " addCut(0,0,2)=-1 addCut(0,0,2147483647)=-1 addCut(0,0,-2147483648)=-1");
        of(9, "Returns the number of cuts afterwards").run().load(FULL, 1).calls(allCuts())
                .calls("paneCount()=49 looseCuts()=0");
        of(9, "INVALID_ARGUMENT if side is out of range or one of the two cells does not exist")
                .on("0;", 1, "addCut(0,0,0)=-1 addCut(0,0,1)=-1")
                .on("00;", 1, "addCut(0,0,1)=-1 addCut(0,1,0)=-1 addCut(0,0,0)=1")
                .on("0;0;", 1, "addCut(0,0,0)=-1 addCut(1,0,1)=-1 addCut(0,0,1)=1")
                .on(FULL, 1, "addCut(0,6,0)=-1 addCut(6,0,1)=-1 addCut(6,6,0)=-1 addCut(6,6,1)=-1"
                        + " addCut(7,0,0)=-1 addCut(0,7,1)=-1")
                .calls("addCut(2147483647,0,1)=-1 addCut(0,2147483647,0)=-1"
                        + " addCut(-2147483648,0,1)=-1 addCut(0,-2147483648,0)=-1 undo()=-2");
        of(9, "INVALID_STATE if this cut is there already.").calls("addCut(0,0,0)=1"
                + " addCut(0,0,0)=-2 addCut(0,0,1)=2 addCut(0,0,1)=-2 removeCut(0,0,0)=1"
                + " addCut(0,0,0)=2")
                .on("01;", 2, "addCut(0,0,0)=1 addCut(0,0,0)=-2 undo()=1");
    }

    /** All 84 cuts of the largest drawing. */
    private static String allCuts() {
        StringBuilder script = new StringBuilder();
        int cuts = 0;
        for (int line = 0; line < 7; line++) {
            for (int k = 0; k < 6; k++) {
                script.append(" addCut(").append(line).append(',').append(k).append(",0)=")
                        .append(++cuts).append(" addCut(").append(k).append(',').append(line)
                        .append(",1)=").append(++cuts);
            }
        }
        return script.toString();
    }

    private static void removeCut() {
        of(10, "Removes the cut (row, column, side).").on("00;00;", 1, "addCut(0,0,0)=1"
                + " addCut(1,0,0)=2 paneCount()=2 removeCut(1,0,0)=1 paneCount()=1"
                + " addCut(0,0,0)=-2 addCut(1,0,0)=2");
        String cuts = "addCut(0,0,0)=1 addCut(2,1,0)=2 addCut(0,2,1)=3 addCut(1,0,1)=4";
        of(10, "`row`: row of a cell").calls(cuts + " removeCut(-1,0,0)=-1 removeCut(3,1,0)=-1"
                + " removeCut(2,0,1)=-1 removeCut(2,1,0)=3 removeCut(0,0,0)=2");
        of(10, "`column`: column of a cell").calls(cuts + " removeCut(0,-1,1)=-1"
                + " removeCut(0,3,1)=-1 removeCut(0,2,0)=-1 removeCut(0,2,1)=3"
                + " removeCut(1,0,1)=2");
        of(10, "`side`: 0 or 1").calls(cuts + " removeCut(0,0,-1)=-1 removeCut(0,0,2)=-1"
                + " removeCut(0,0,0)=3");
        of(10, "Returns the number of cuts afterwards").calls(cuts + " removeCut(1,0,1)=3"
                + " removeCut(0,2,1)=2 removeCut(2,1,0)=1 removeCut(0,0,0)=0");
        of(10, "INVALID_ARGUMENT if side is out of range or one of the two cells does not exist")
                .on("0;", 1, "removeCut(0,0,0)=-1 removeCut(0,0,1)=-1")
                .on("00;", 1, "removeCut(0,0,1)=-1 removeCut(0,1,0)=-1 removeCut(0,0,0)=-2")
                .on("0;0;", 1, "removeCut(0,0,0)=-1 removeCut(1,0,1)=-1 removeCut(0,0,1)=-2")
                .calls("removeCut(2147483647,0,1)=-1 removeCut(0,2147483647,0)=-1"
                        + " removeCut(-2147483648,0,1)=-1 removeCut(0,0,-2147483648)=-1");
        of(10, "INVALID_STATE if there is no such cut.").calls("removeCut(0,0,0)=-2 addCut(0,0,0)=1"
                + " removeCut(0,0,1)=-2 removeCut(0,1,0)=-2 removeCut(1,0,0)=-2 removeCut(0,0,0)=0"
                + " removeCut(0,0,0)=-2 undo()=1");
    }

    private static void looseCuts() {
        of(11, "Returns the number of loose cuts.").calls("looseCuts()=0 addCut(0,0,0)=1"
                + " looseCuts()=1 addCut(1,1,1)=2 looseCuts()=2 addCut(0,0,1)=3 looseCuts()=1"
                + " setColour(2,1,1)=0 looseCuts()=0").on("0;", 1, "looseCuts()=0");
    }

    private static void removeLooseCuts() {
        of(12, "Removes all cuts that are loose.").calls("addCut(0,0,0)=1 addCut(0,0,1)=2"
                + " addCut(1,1,0)=3 addCut(1,1,1)=4 removeLooseCuts()=2 looseCuts()=0"
                + " removeCut(1,1,0)=-2 removeCut(1,1,1)=-2 removeCut(0,0,1)=1 removeCut(0,0,0)=0");
        of(12, "(This does not change the panes.)").calls("addCut(0,0,0)=1 addCut(0,0,1)=2"
                + " addCut(1,1,0)=3 paneCount()=2 removeLooseCuts()=1 paneCount()=2 paneSize(0)=1"
                + " paneSize(1)=8 paneAt(0,0)=0")
                .on("0000;0000;", 1, "setCellLimit(4)=12 addCut(0,1,0)=1 splitLead(0)=1"
                        + " removeLooseCuts()=1 paneCount()=1 splitLead(0)=2");
        of(12, "Returns the number of cuts removed").calls("addCut(1,1,0)=1 removeLooseCuts()=1"
                + " addCut(1,1,1)=1 addCut(0,1,1)=2 addCut(1,0,0)=3 removeLooseCuts()=3");
        of(12, "INVALID_STATE if there was none.").calls("removeLooseCuts()=-2")
                .calls("addCut(0,0,0)=1 addCut(0,0,1)=2 removeLooseCuts()=-2 undo()=1")
                .calls("addCut(1,1,0)=1 removeLooseCuts()=1 removeLooseCuts()=-2 undo()=1")
                .on("01;", 2, "addCut(0,0,0)=1 removeLooseCuts()=-2");
    }

    private static void paneCountAndPaneAt() {
        of(13, "Returns the number of panes.").calls("paneCount()=1").on("0;", 1, "paneCount()=1")
                .on(FULL, 1, "paneCount()=1").on(CHECKERED, 49, "paneCount()=49 setColour(0,0,1)=0"
                        + " paneCount()=47 undo()=1 paneCount()=49");
        of(14, "`row`: an existing row").calls("paneAt(-1,0)=-1 paneAt(0,0)=0 paneAt(2,0)=0"
                + " paneAt(3,0)=-1");
        of(14, "`column`: an existing column").calls("paneAt(0,-1)=-1 paneAt(0,0)=0 paneAt(0,2)=0"
                + " paneAt(0,3)=-1");
        of(14, "Returns the number of the pane that contains the cell")
                .on(CHECKERED, 49, "paneAt(0,0)=0 paneAt(0,6)=6 paneAt(3,3)=24 paneAt(6,0)=42"
                        + " paneAt(6,6)=48");
        of(14, "INVALID_ARGUMENT if there is no such cell.")
                .on("01;", 2, "paneAt(1,0)=-1 paneAt(0,2)=-1 paneAt(0,1)=1 paneAt(8,0)=-1"
                        + " paneAt(0,8)=-1 paneAt(-2147483648,0)=-1 paneAt(0,2147483647)=-1");
    }

    /** The bounds of a pane's number in a drawing of one pane, of two and of the most. */
    private static void existingPane(int promise, String method, int ofOne) {
        Sentence pane = of(promise, "`pane`: the number of an existing pane");
        Sentence none = of(promise, "INVALID_ARGUMENT if there is no such pane");
        String one = method + "(0)=" + ofOne;
        pane.on("0;", 1, one);
        none.on("0;", 1, method + "(-1)=-1 " + method + "(1)=-1" + extremes(method));
        none.on("0;0;", 1, "addCut(0,0,1)=1 " + method + "(2)=-1 undo()=1 " + method + "(1)=-1");
        Run last = none.run().load(CHECKERED, 49);
        for (int number : new int[] {-64, -1, 49, 50, 63, 64, 65, 128, 256}) {
            last.calls(method + "(" + number + ")=-1");
        }
        last.calls(extremes(method).trim()).calls("paneCount()=49 undo()=0");
    }

    private static String extremes(String method) {
        return String.format(EXTREMES, method);
    }

    private static void questionsOfPanes() {
        existingPane(15, "paneSize", 1);
        of(15, "Returns the number of its cells").calls("paneSize(0)=9")
                .on(FULL, 1, "paneSize(0)=49").on(CHECKERED, 49, "paneSize(0)=1 paneSize(48)=1")
                .on("0110;0100;", 3, "paneSize(0)=2 paneSize(1)=3 paneSize(2)=3");
        existingPane(16, "innerCorners", 0);
        of(16, "Returns the number of its inner corners").calls("innerCorners(0)=0")
                .on("101;000;101;", 5, "innerCorners(0)=0 innerCorners(1)=4 innerCorners(4)=0");
        existingPane(17, "holes", 0);
        of(17, "Returns the number of its holes").calls("holes(0)=0")
                .on("0000000;0101010;".repeat(3) + "0000000;", 10, "holes(0)=9 holes(9)=0");
        existingPane(18, "canBeCut", 1);
        of(18, "Returns 1 if it can be cut, otherwise 0").calls("canBeCut(0)=1 setCellLimit(8)=12"
                + " canBeCut(0)=0 setCellLimit(9)=8 canBeCut(0)=1 setColour(1,1,1)=0 canBeCut(0)=0"
                + " canBeCut(1)=1");
        existingPane(20, "neighbourCount", 0);
        of(20, "Returns the number of panes that are its neighbours").calls("neighbourCount(0)=0")
                .on(CHECKERED, 49, "neighbourCount(0)=2 neighbourCount(1)=3 neighbourCount(8)=4"
                        + " neighbourCount(48)=2 neighbourCount(24)=4");
    }

    private static void cuttableCount() {
        of(19, "Returns the number of panes that can be cut.").calls("cuttableCount()=1"
                + " setCellLimit(8)=12 cuttableCount()=0 setCellLimit(9)=8 cuttableCount()=1")
                .on(CHECKERED, 49, "cuttableCount()=49 setCellLimit(1)=12 cuttableCount()=49"
                        + " setColour(0,0,1)=0 cuttableCount()=46")
                .on("00000;01110;01010;01110;00000;", 3, "cuttableCount()=1");
    }

    private static void leadLength() {
        of(21, "Returns the lead length.").calls("leadLength()=0 setColour(1,1,1)=0 leadLength()=4"
                + " setColour(0,0,1)=0 leadLength()=6").on("0;", 1, "leadLength()=0")
                .on(CHECKERED, 49, "leadLength()=84");
    }

    private static void setCellLimit() {
        of(22, "Sets the cell limit.").calls("setCellLimit(8)=12 canBeCut(0)=0 setCellLimit(9)=8"
                + " canBeCut(0)=1 splitPieces(0)=1 setCellLimit(8)=9 splitPieces(0)=2 undo()=2"
                + " splitPieces(0)=1");
        of(22, "`limit`: 1 to 49").calls("setCellLimit(0)=-1 setCellLimit(1)=12 setCellLimit(49)=1"
                + " setCellLimit(50)=-1 setCellLimit(12)=49");
        of(22, "Returns the previous limit").calls("setCellLimit(20)=12 setCellLimit(20)=20"
                + " setCellLimit(3)=20 undo()=2 setCellLimit(4)=20");
        of(22, "INVALID_ARGUMENT if the argument is out of range.").calls("setCellLimit(0)=-1"
                + " setCellLimit(-1)=-1 setCellLimit(50)=-1" + extremes("setCellLimit")
                + " undo()=-2 setCellLimit(12)=12");
    }

    private static void setCornerLimit() {
        of(23, "Sets the corner limit.").on("00;01;", 2, "canBeCut(0)=1 setCornerLimit(0)=1"
                + " canBeCut(0)=0 setCornerLimit(1)=0 canBeCut(0)=1 splitPieces(0)=1"
                + " setCornerLimit(0)=1 splitPieces(0)=2 undo()=3 splitPieces(0)=1");
        of(23, "`limit`: 0 to 8").calls("setCornerLimit(-1)=-1 setCornerLimit(0)=1"
                + " setCornerLimit(8)=0 setCornerLimit(9)=-1 setCornerLimit(1)=8");
        of(23, "Returns the previous limit").calls("setCornerLimit(5)=1 setCornerLimit(5)=5"
                + " setCornerLimit(3)=5 undo()=2 setCornerLimit(4)=5");
        of(23, "INVALID_ARGUMENT if the argument is out of range.").calls("setCornerLimit(-1)=-1"
                + " setCornerLimit(9)=-1" + extremes("setCornerLimit")
                + " undo()=-2 setCornerLimit(1)=1");
    }

    private static void splitPieces() {
        existingPane(24, "splitPieces", 1);
        of(24, "Returns the number of pieces of its split plan").calls("setCellLimit(8)=12"
                + " splitPieces(0)=2 setCellLimit(3)=8 splitPieces(0)=3 setCellLimit(1)=3"
                + " splitPieces(0)=9 paneCount()=1")
                .on(FULL, 1, "setCellLimit(1)=12 splitPieces(0)=49 setCellLimit(48)=1"
                        + " splitPieces(0)=2")
                .on("0000;1111;", 2, "setCellLimit(2)=12 splitPieces(0)=2 splitPieces(1)=2"
                        + " setColour(1,3,2)=1 splitPieces(1)=2 splitPieces(2)=1");
        of(24, "(1 if the pane can be cut)").calls("splitPieces(0)=1 setCellLimit(9)=12"
                + " splitPieces(0)=1").on(CHECKERED, 49, "splitPieces(0)=1 splitPieces(48)=1");
    }

    private static void splitLead() {
        existingPane(25, "splitLead", 0);
        of(25, "Returns the lead of its split plan").calls("setCellLimit(8)=12 splitLead(0)=3"
                + " setCellLimit(3)=8 splitLead(0)=6 setCellLimit(1)=3 splitLead(0)=12"
                + " leadLength()=0")
                .on(FULL, 1, "setCellLimit(1)=12 splitLead(0)=84 setCellLimit(48)=1"
                        + " splitLead(0)=7")
                .on("0000;1111;", 2, "setCellLimit(2)=12 splitLead(0)=1 splitLead(1)=1"
                        + " setCellLimit(1)=2 splitLead(1)=3 splitLead(0)=3");
        of(25, "(0 if the pane can be cut)").calls("splitLead(0)=0 setCellLimit(9)=12"
                + " splitLead(0)=0").on(CHECKERED, 49, "splitLead(0)=0 splitLead(48)=0");
    }

    private static void applySplit() {
        existingPane(26, "applySplit", -2);
        of(26, "Applies the split plan of a pane.").calls("setCellLimit(3)=12 applySplit(0)=3"
                + " paneSize(0)=3 paneSize(1)=3 paneSize(2)=3 leadLength()=6")
                .on("0000;1111;", 2, "setCellLimit(2)=12 applySplit(1)=3 paneSize(0)=4 paneSize(1)=2"
                        + " paneSize(2)=2");
        of(26, "Returns the number of panes afterwards").calls("setCellLimit(1)=12 applySplit(0)=9"
                + " paneCount()=9").calls("setColour(1,1,3)=0 applySplit(0)=4 paneCount()=4")
                .on(FULL, 1, "setCellLimit(1)=12 applySplit(0)=49 paneCount()=49");
        of(26, "INVALID_STATE if the pane can be cut.").calls("applySplit(0)=-2 setCellLimit(9)=12"
                + " applySplit(0)=-2 setCellLimit(8)=9 applySplit(0)=2 applySplit(0)=-2"
                + " applySplit(1)=-2 applySplit(2)=-1 undo()=2");
    }

    private static void equalNeighbours() {
        of(27, "Returns the number of pairs of neighbouring panes whose cells have the same colour.")
                .calls("equalNeighbours()=0 setCellLimit(3)=12 applySplit(0)=3 equalNeighbours()=2"
                        + " setCellLimit(1)=3 applySplit(2)=5 equalNeighbours()=6")
                .on("01;10;", 4, "equalNeighbours()=0")
                .on("010;010;", 3, "equalNeighbours()=0 addCut(0,1,1)=1 equalNeighbours()=1")
                .on("555;555;", 1, "addCut(0,0,1)=1 addCut(0,1,1)=2 addCut(0,2,1)=3"
                        + " equalNeighbours()=1")
                .run().load(FULL, 1).calls(allCuts()).calls("equalNeighbours()=84");
    }

    private static void colourCount() {
        of(28, "`order`: 0 to 2").calls("colourCount(-1)=-1 colourCount(0)=1 colourCount(1)=1"
                + " colourCount(2)=1 colourCount(3)=-1");
        of(28, "Returns the colour count of the order")
                .on("2110;2030;", 5, "colourCount(0)=4 colourCount(1)=3 colourCount(2)=3")
                .on("1111;2030;4122;", 8, "colourCount(0)=3 colourCount(1)=4 colourCount(2)=3")
                .on("2222;0102;2212;", 6, "colourCount(0)=3 colourCount(1)=3 colourCount(2)=4");
        of(28, "INVALID_ARGUMENT if the argument is out of range.").on(CHECKERED, 49,
                "colourCount(-1)=-1 colourCount(3)=-1 colourCount(48)=-1"
                        + extremes("colourCount"));
    }

    private static void suggestedColour() {
        of(29, "`order`: 0 to 2").on("01;", 2, "suggestedColour(-1,0)=-1 suggestedColour(0,0)=0"
                + " suggestedColour(1,0)=0 suggestedColour(2,0)=1 suggestedColour(3,0)=-1");
        of(29, "`pane`: the number of an existing pane").on("01;", 2, "suggestedColour(0,-1)=-1"
                + " suggestedColour(0,0)=0 suggestedColour(0,1)=1 suggestedColour(0,2)=-1")
                .on(CHECKERED, 49, "suggestedColour(0,48)=0 suggestedColour(1,48)=0"
                        + " suggestedColour(2,48)=0 suggestedColour(0,49)=-1"
                        + " suggestedColour(0,64)=-1");
        of(29, "Returns the number of the pane in the colouring by the order")
                .on("0123;", 4, "suggestedColour(0,0)=0 suggestedColour(1,0)=1"
                        + " suggestedColour(2,0)=1 suggestedColour(0,3)=1 suggestedColour(1,3)=0"
                        + " suggestedColour(2,3)=0");
        of(29, "INVALID_ARGUMENT if an argument is out of range.").calls("suggestedColour(3,1)=-1"
                + " suggestedColour(-1,-1)=-1 suggestedColour(-2147483648,0)=-1"
                + " suggestedColour(2147483647,0)=-1 suggestedColour(0,-2147483648)=-1"
                + " suggestedColour(0,2147483647)=-1 suggestedColour(0,1)=-1");
    }

    private static void bestOrder() {
        of(30, "Returns the order with the smallest colour count")
                .on("20012;11202;11122;", 7, "colourCount(0)=3 colourCount(1)=4 colourCount(2)=4"
                        + " bestOrder()=0")
                .on("2221;0101;0021;", 6, "colourCount(0)=4 colourCount(1)=3 colourCount(2)=4"
                        + " bestOrder()=1")
                .on("335;042;333;", 6, "colourCount(0)=4 colourCount(1)=4 colourCount(2)=3"
                        + " bestOrder()=2")
                .on("2453;5503;3444;", 8, "colourCount(0)=5 colourCount(1)=4 colourCount(2)=3"
                        + " bestOrder()=2");
        of(30, "the smallest order among several.").calls("bestOrder()=0")
                .on("2110;2030;", 5, "bestOrder()=1")
                .on("1111;2030;4122;", 8, "bestOrder()=0")
                .on("2222;0102;2212;", 6, "bestOrder()=0")
                .on(CHECKERED, 49, "bestOrder()=0");
    }

    private static void largestClique() {
        of(31, "Returns the greatest number of panes in a clique.").calls("largestClique()=1"
                + " setColour(1,1,1)=0 largestClique()=2 setColour(0,0,2)=0 largestClique()=2"
                + " setColour(0,1,3)=0 largestClique()=3")
                .on("0000;0120;0330;0000;", 4, "largestClique()=4")
                .on(CHECKERED, 49, "largestClique()=2 setColour(0,0,1)=0 largestClique()=2");
    }

    private static void undo() {
        of(32, "Undoes the latest edit.").calls("setColour(0,0,1)=0 setColour(0,0,2)=1 undo()=1"
                + " colourAt(0,0)=1 undo()=0 colourAt(0,0)=0");
        of(32, "Returns how many edits can still be undone").calls("addCut(0,0,0)=1 undo()=0")
                .run().times(8, "setCellLimit(12)=12").calls("undo()=7")
                .times(30, "setCellLimit(12)=12").calls("undo()=7 undo()=6 undo()=5 undo()=4"
                        + " undo()=3 undo()=2 undo()=1 undo()=0");
        of(32, "INVALID_STATE if there is none to undo.").calls("undo()=-2 undo()=-2 rows()=3")
                .calls("addCut(0,0,0)=1 undo()=0 undo()=-2 undo()=-2 looseCuts()=0 addCut(0,0,0)=1"
                        + " undo()=0")
                .run().times(9, "setCornerLimit(1)=1").calls("undo()=7 undo()=6 undo()=5 undo()=4"
                        + " undo()=3 undo()=2 undo()=1 undo()=0 undo()=-2 undo()=-2");
    }
}
