/** A few short runs for each promise: ordinary inputs, the document's edges and wrong inputs. */
public final class PromiseTest {
    private static final String FRAME_OF_RINGS = "00000;01110;01010;01110;00000;";

    public static void main(String[] args) {
        newObject();
        appendCharacter();
        clearText();
        loadDrawing();
        loadDrawingErrors();
        setColour();
        rowsAndColumns();
        colourAt();
        addCut();
        removeCut();
        looseCuts();
        removeLooseCuts();
        paneCount();
        paneAt();
        paneSize();
        innerCorners();
        holes();
        canBeCut();
        cuttableCount();
        neighbourCount();
        leadLength();
        setCellLimit();
        setCornerLimit();
        splitPiecesAndLead();
        applySplit();
        equalNeighbours();
        colourCount();
        suggestedColour();
        bestOrder();
        largestClique();
        undo();
        undoEachEdit();
        Run.end();
    }

    private static void newObject() {
        new Run("promise 1").calls("rows()=3 columns()=3 paneCount()=1 paneSize(0)=9 looseCuts()=0"
                + " clearText()=0 undo()=-2");
        for (int row = 0; row < 3; row++) {
            for (int column = 0; column < 3; column++) {
                String cell = row + "," + column;
                new Run("promise 1").calls("colourAt(" + cell + ")=0");
            }
        }
        new Run("promise 1, cuts").calls("addCut(0,0,0)=1");
        new Run("promise 1, limits").calls("setCellLimit(5)=12 setCornerLimit(5)=1");
    }

    private static void appendCharacter() {
        new Run("promise 2").calls("appendCharacter(0)=1 appendCharacter(255)=2"
                + " appendCharacter(-1)=-1 appendCharacter(256)=-1 appendCharacter(-2147483648)=-1"
                + " appendCharacter(2147483647)=-1 appendCharacter(65)=3 clearText()=3");
        new Run("promise 2, full").type("x".repeat(80)).calls("appendCharacter(48)=-3"
                + " appendCharacter(256)=-1 appendCharacter(-1)=-1 clearText()=80"
                + " appendCharacter(48)=1");
    }

    private static void clearText() {
        new Run("promise 3").calls("clearText()=0").type("abc")
                .calls("clearText()=3 clearText()=0 loadDrawing()=-10 undo()=-2");
        new Run("promise 3, what was there has no effect").type("123").calls("clearText()=3")
                .load("0;", 1).calls("colourAt(0,0)=0 columns()=1");
    }

    private static void loadDrawing() {
        new Run("promise 4, smallest").load("5;", 1)
                .calls("rows()=1 columns()=1 colourAt(0,0)=5 clearText()=0 undo()=0 rows()=3");
        new Run("promise 4, largest").load("0101010;1010101;".repeat(3) + "2345234;", 49)
                .calls("rows()=7 columns()=7 colourAt(6,6)=4 colourAt(5,6)=1 paneAt(6,6)=48");
        new Run("promise 4, spaces").type(" ".repeat(24) + "0000000;".repeat(7))
                .calls("loadDrawing()=1 rows()=7 columns()=7 paneSize(0)=49");
        new Run("promise 4, spaces").load("  0 1;2 3 ; ", 4)
                .calls("rows()=2 columns()=2 colourAt(0,1)=1 colourAt(1,0)=2 colourAt(1,1)=3");
        new Run("promise 4, oblong").load("0123451;", 7).calls("rows()=1 columns()=7");
        new Run("promise 4, oblong").load("0;1;2;3;4;5;1;", 7).calls("rows()=7 columns()=1");
        new Run("promise 4, cuts go and limits stay")
                .calls("addCut(0,0,0)=1 addCut(0,0,1)=2 setCellLimit(7)=12 setCornerLimit(3)=1")
                .load("000;000;000;", 1)
                .calls("removeCut(0,0,0)=-2 removeCut(0,0,1)=-2 setCellLimit(9)=7"
                        + " setCornerLimit(2)=3");
    }

    private static void loadDrawingErrors() {
        String[] texts = {"", "   ", ";", "0", "01;0 ", "01;0;", "01;012;", "0;;", "00000000;",
            "0;0;0;0;0;0;0;0;", "0;0;0;0;0;0;0;;", "06;", "0/;", " 0 a;", "0;9;8;", "0:", "\t0;",
            "\u00000;", "01;01", "\u00a00;", "01;01;0", "-1;"};
        int[] offsets = {0, 3, 0, 1, 5, 4, 5, 2, 7, 14, 14, 1, 1, 3, 2, 1, 0, 0, 5, 0, 7, 0};
        for (int i = 0; i < texts.length; i++) {
            new Run("promise 4, error in \"" + texts[i] + "\"").calls("setColour(1,1,2)=0")
                    .type(texts[i])
                    .calls("loadDrawing()=" + (-10 - offsets[i]) + " rows()=3 columns()=3"
                            + " colourAt(1,1)=2 clearText()=" + texts[i].length() + " undo()=0");
        }
        new Run("promise 4, a full text").type("0000000;" + " ".repeat(72))
                .calls("loadDrawing()=1");
        new Run("promise 4, a full text").type("0000000;".repeat(7) + "0" + " ".repeat(23))
                .calls("loadDrawing()=-66");
        new Run("promise 4, a full text").type("00;0" + " ".repeat(76)).calls("loadDrawing()=-90");
        new Run("promise 4, the text goes on").type("01")
                .calls("loadDrawing()=-12 appendCharacter(59)=3 loadDrawing()=2");
    }

    private static void setColour() {
        new Run("promise 5").calls("setColour(1,2,5)=0 setColour(1,2,4)=5 setColour(1,2,4)=-2"
                + " setColour(1,2,0)=4 setColour(0,0,0)=-2 colourAt(1,2)=0 undo()=2");
        new Run("promise 5, wrong").calls("setColour(-1,0,1)=-1 setColour(3,0,1)=-1"
                + " setColour(0,-1,1)=-1 setColour(0,3,1)=-1 setColour(0,0,-1)=-1"
                + " setColour(0,0,6)=-1 setColour(3,3,0)=-1 undo()=-2");
        new Run("promise 5, cuts stay").calls("addCut(0,0,0)=1 addCut(0,0,1)=2 setColour(0,0,1)=0"
                + " setColour(0,0,0)=1 paneCount()=2 removeCut(0,0,0)=1");
        new Run("promise 5, the drawing's own size").load("00;", 1)
                .calls("setColour(1,0,1)=-1 setColour(0,2,1)=-1 setColour(0,1,1)=0 paneCount()=2");
    }

    private static void rowsAndColumns() {
        new Run("promises 6 and 7").load("000;111;", 2).calls("rows()=2 columns()=3 undo()=0"
                + " rows()=3 columns()=3");
        new Run("promises 6 and 7").load("00;11;22;33;44;", 5).calls("rows()=5 columns()=2");
    }

    private static void colourAt() {
        new Run("promise 8").load("012;345;", 6).calls("colourAt(0,0)=0 colourAt(0,1)=1"
                + " colourAt(0,2)=2 colourAt(1,0)=3 colourAt(1,1)=4 colourAt(1,2)=5"
                + " colourAt(2,0)=-1 colourAt(0,3)=-1 colourAt(-1,0)=-1 colourAt(0,-1)=-1"
                + " colourAt(2147483647,2147483647)=-1");
    }

    private static void addCut() {
        new Run("promise 9").calls("addCut(0,0,0)=1 addCut(0,0,1)=2 addCut(2,1,0)=3 addCut(1,2,1)=4"
                + " addCut(0,0,0)=-2 addCut(0,0,1)=-2 paneCount()=3 paneAt(0,1)=1 paneSize(0)=1");
        new Run("promise 9, wrong").calls("addCut(0,2,0)=-1 addCut(2,0,1)=-1 addCut(0,0,-1)=-1"
                + " addCut(0,0,2)=-1 addCut(-1,0,0)=-1 addCut(-1,0,1)=-1 addCut(0,-1,0)=-1"
                + " addCut(0,-1,1)=-1 addCut(3,0,0)=-1 addCut(0,3,1)=-1"
                + " addCut(2147483647,0,1)=-1 addCut(0,2147483647,0)=-1 undo()=-2");
        new Run("promise 9, edges").calls("addCut(2,1,0)=1 addCut(1,2,1)=2 addCut(2,0,0)=3"
                + " addCut(0,2,1)=4 undo()=3");
        new Run("promise 9, between colours").load("01;", 2)
                .calls("addCut(0,0,0)=1 paneCount()=2 looseCuts()=0");
        new Run("promise 9, one row").load("0;", 1).calls("addCut(0,0,0)=-1 addCut(0,0,1)=-1");
    }

    private static void removeCut() {
        new Run("promise 10").calls("removeCut(0,0,0)=-2 addCut(0,0,0)=1 removeCut(0,0,1)=-2"
                + " addCut(0,0,1)=2 paneCount()=2 removeCut(0,0,0)=1 paneCount()=1"
                + " removeCut(0,0,0)=-2 removeCut(0,0,1)=0 undo()=3 looseCuts()=1");
        new Run("promise 10, wrong").calls("removeCut(0,2,0)=-1 removeCut(2,0,1)=-1"
                + " removeCut(0,0,-1)=-1 removeCut(0,0,2)=-1 removeCut(-1,0,0)=-1"
                + " removeCut(0,-1,1)=-1 removeCut(3,0,0)=-1 removeCut(0,3,1)=-1 undo()=-2");
    }

    private static void looseCuts() {
        new Run("promise 11").calls("looseCuts()=0 addCut(0,0,0)=1 looseCuts()=1 addCut(0,0,1)=2"
                + " looseCuts()=0 addCut(1,1,0)=3 addCut(1,1,1)=4 looseCuts()=2");
        new Run("promise 11, between colours").calls("setColour(0,0,1)=0 addCut(0,0,0)=1"
                + " looseCuts()=0 setColour(0,0,0)=1 looseCuts()=1");
    }

    private static void removeLooseCuts() {
        new Run("promise 12").calls("removeLooseCuts()=-2 undo()=-2 addCut(0,0,0)=1 addCut(0,0,1)=2"
                + " removeLooseCuts()=-2 addCut(1,1,0)=3 addCut(1,1,1)=4 paneCount()=2"
                + " removeLooseCuts()=2 paneCount()=2 looseCuts()=0 removeLooseCuts()=-2"
                + " removeCut(1,1,0)=-2 removeCut(1,1,1)=-2 undo()=4 looseCuts()=2"
                + " removeCut(0,0,0)=3 looseCuts()=3");
    }

    private static void paneCount() {
        new Run("promise 13").calls("paneCount()=1 setColour(1,1,1)=0 paneCount()=2");
        new Run("promise 13, corners do not join").load("010;101;010;", 9).calls("paneCount()=9");
        new Run("promise 13, a cut through").load("00;00;", 1).calls("addCut(0,0,0)=1 paneCount()=1"
                + " addCut(1,0,0)=2 paneCount()=2 paneAt(1,0)=0 paneAt(1,1)=1");
    }

    private static void paneAt() {
        new Run("promise 14").load("011;001;222;", 3).calls("paneAt(0,0)=0 paneAt(0,1)=1"
                + " paneAt(0,2)=1 paneAt(1,0)=0 paneAt(1,1)=0 paneAt(1,2)=1 paneAt(2,2)=2"
                + " paneAt(-1,0)=-1 paneAt(0,-1)=-1 paneAt(3,0)=-1 paneAt(0,3)=-1");
        new Run("promise 14, the first cell counts").load("010;110;", 3)
                .calls("paneAt(1,0)=1 paneAt(0,2)=2 paneAt(1,2)=2 paneAt(2,0)=-1");
    }

    private static void paneSize() {
        new Run("promise 15").load("0110;0100;", 3).calls("paneSize(0)=2 paneSize(1)=3 paneSize(2)=3"
                + " paneSize(3)=-1 paneSize(-1)=-1 paneSize(2147483647)=-1 paneSize(64)=-1");
    }

    private static void innerCorners() {
        new Run("promise 16").load("00;01;", 2).calls("innerCorners(0)=1 innerCorners(1)=0"
                + " innerCorners(2)=-1 innerCorners(-1)=-1");
        new Run("promise 16, each way").load("10;00;", 2).calls("innerCorners(1)=1");
        new Run("promise 16, each way").load("01;00;", 2).calls("innerCorners(0)=1");
        new Run("promise 16, each way").load("00;10;", 2).calls("innerCorners(0)=1");
        new Run("promise 16, a cross").load("101;000;101;", 5).calls("innerCorners(1)=4"
                + " innerCorners(0)=0");
        new Run("promise 16, two of four").load("011;001;000;", 2).calls("innerCorners(0)=2"
                + " innerCorners(1)=1");
        new Run("promise 16, loose cuts have no effect").calls("addCut(0,0,0)=1 innerCorners(0)=0");
        new Run("promise 16, a cell cut off").calls("addCut(0,0,0)=1 addCut(0,0,1)=2"
                + " innerCorners(1)=1 innerCorners(0)=0");
        new Run("promise 16, wide").load("0000000;0101010;", 4).calls("innerCorners(0)=6");
        new Run("promise 16, no point inside").load("0000000;", 1).calls("innerCorners(0)=0");
    }

    private static void holes() {
        new Run("promise 17").calls("holes(0)=0 setColour(1,1,1)=0 holes(0)=1 holes(1)=0 holes(2)=-1"
                + " holes(-1)=-1");
        new Run("promise 17, four").load("00000;01010;00000;01010;00000;", 5).calls("holes(0)=4");
        new Run("promise 17, by a corner").load("0000;0100;0010;0000;", 3).calls("holes(0)=1");
        new Run("promise 17, two panes in it").load("0000;0120;0000;", 3).calls("holes(0)=1");
        new Run("promise 17, at the edge below").load("000;010;010;", 2).calls("holes(0)=0");
        new Run("promise 17, at the edge above").load("010;010;000;", 2).calls("holes(0)=0");
        new Run("promise 17, at the left edge").load("000;110;000;", 2).calls("holes(0)=0");
        new Run("promise 17, at the right edge").load("000;011;000;", 2).calls("holes(0)=0");
        new Run("promise 17, to the edge by a corner").load("1000;0100;0000;0000;", 3)
                .calls("holes(1)=0 paneSize(1)=14");
        new Run("promise 17, to the edge by a corner").load("0000;0000;0100;1000;", 3)
                .calls("holes(0)=0 paneSize(0)=14");
        new Run("promise 17, to the edge by a corner").load("0001;0010;0000;0000;", 3)
                .calls("holes(0)=0 paneSize(0)=14");
        new Run("promise 17, nested").load(FRAME_OF_RINGS, 3)
                .calls("holes(0)=1 holes(1)=1 holes(2)=0");
        new Run("promise 17, by cuts").calls("addCut(0,1,1)=1 addCut(1,0,0)=2 addCut(1,1,0)=3"
                + " holes(0)=0 addCut(1,1,1)=4 holes(0)=1 paneAt(1,1)=1");
        new Run("promise 17, the most").load("0000000;0101010;".repeat(3) + "0000000;", 10)
                .calls("holes(0)=9 innerCorners(0)=36");
    }

    private static void canBeCut() {
        new Run("promise 18, cells").load("000000;000000;", 1).calls("canBeCut(0)=1"
                + " setCellLimit(11)=12 canBeCut(0)=0 canBeCut(1)=-1 canBeCut(-1)=-1");
        new Run("promise 18, cells").load("0000000;0000001;", 2).calls("canBeCut(0)=0"
                + " setCellLimit(13)=12 canBeCut(0)=1 setCornerLimit(0)=1 canBeCut(0)=0");
        new Run("promise 18, corners").load("101;000;101;", 5).calls("canBeCut(1)=0"
                + " setCornerLimit(3)=1 canBeCut(1)=0 setCornerLimit(4)=3 canBeCut(1)=1");
        new Run("promise 18, a hole").calls("setColour(1,1,1)=0 setCornerLimit(8)=1"
                + " setCellLimit(49)=12 canBeCut(0)=0 canBeCut(1)=1");
    }

    private static void cuttableCount() {
        new Run("promise 19").calls("cuttableCount()=1 setCellLimit(8)=12 cuttableCount()=0"
                + " setColour(0,0,1)=0 cuttableCount()=2 setCornerLimit(0)=1 cuttableCount()=1"
                + " setColour(1,1,2)=0 cuttableCount()=2");
        new Run("promise 19, rings").load(FRAME_OF_RINGS, 3).calls("cuttableCount()=1");
    }

    private static void neighbourCount() {
        new Run("promise 20").load("012;345;", 6).calls("neighbourCount(0)=2 neighbourCount(1)=3"
                + " neighbourCount(4)=3 neighbourCount(5)=2 neighbourCount(6)=-1"
                + " neighbourCount(-1)=-1");
        new Run("promise 20, once each").calls("neighbourCount(0)=0 setColour(1,1,3)=0"
                + " neighbourCount(0)=1 neighbourCount(1)=1");
        new Run("promise 20, over a cut").load("00;", 1).calls("addCut(0,0,0)=1 neighbourCount(0)=1"
                + " neighbourCount(1)=1");
        new Run("promise 20, rows' ends do not touch").load("01;23;45;", 6)
                .calls("neighbourCount(1)=2 neighbourCount(2)=3");
        new Run("promise 20, rows' ends do not touch").load("0101012;1010103;", 14)
                .calls("neighbourCount(6)=2 neighbourCount(7)=2");
    }

    private static void leadLength() {
        new Run("promise 21").load("012;345;", 6).calls("leadLength()=7");
        new Run("promise 21, loose cuts have none").calls("leadLength()=0 addCut(0,0,0)=1"
                + " leadLength()=0 addCut(0,0,1)=2 leadLength()=2");
        new Run("promise 21, a cut between colours").load("01;00;", 2).calls("leadLength()=2"
                + " addCut(0,0,0)=1 leadLength()=2");
        new Run("promise 21, the most").load("0101010;1010101;".repeat(3) + "0101010;", 49)
                .calls("leadLength()=84");
    }

    private static void setCellLimit() {
        new Run("promise 22").calls("setCellLimit(1)=12 setCellLimit(49)=1 setCellLimit(0)=-1"
                + " setCellLimit(50)=-1 setCellLimit(-5)=-1 setCellLimit(49)=49 setCellLimit(9)=49"
                + " canBeCut(0)=1 setCellLimit(8)=9 canBeCut(0)=0 undo()=4 canBeCut(0)=1");
    }

    private static void setCornerLimit() {
        new Run("promise 23").load("00;01;", 2).calls("setCornerLimit(0)=1 canBeCut(0)=0"
                + " setCornerLimit(8)=0 canBeCut(0)=1 setCornerLimit(-1)=-1 setCornerLimit(9)=-1"
                + " setCornerLimit(8)=8 undo()=3 undo()=2 canBeCut(0)=0");
    }

    private static void splitPiecesAndLead() {
        new Run("promises 24 and 25").calls("splitPieces(0)=1 splitLead(0)=0 splitPieces(1)=-1"
                + " splitLead(1)=-1 splitPieces(-1)=-1 splitLead(-1)=-1 undo()=-2");
        new Run("promises 24 and 25, one row").load("0000000;", 1).calls("setCellLimit(3)=12"
                + " splitPieces(0)=3 splitLead(0)=2 setCellLimit(1)=3 splitPieces(0)=7"
                + " splitLead(0)=6 paneCount()=1");
        new Run("promises 24 and 25, corners").load("000;010;", 2)
                .calls("splitPieces(0)=2 splitLead(0)=1 splitPieces(1)=1 splitLead(1)=0"
                        + " setCornerLimit(0)=1 splitPieces(0)=3 splitLead(0)=2");
        new Run("promises 24 and 25, pieces before lead").load("00000;00001;", 2)
                .calls("setCellLimit(5)=12 setCornerLimit(0)=1 splitPieces(0)=2 splitLead(0)=4");
        new Run("promise 25, asked first").load("00000;00001;", 2)
                .calls("setCellLimit(5)=12 splitLead(0)=2 splitLead(1)=0 splitLead(0)=2");
        new Run("promises 24 and 25, lead within pieces").load("0000;0000;", 1)
                .calls("setCellLimit(4)=12 splitPieces(0)=2 splitLead(0)=2");
        new Run("promises 24 and 25, a cut costs no lead").load("0000;0000;", 1)
                .calls("addCut(0,1,0)=1 setCellLimit(4)=12 splitPieces(0)=2 splitLead(0)=1"
                        + " removeLooseCuts()=1 splitLead(0)=2");
        new Run("promises 24 and 25, a ring").load("0000;0110;0000;", 2)
                .calls("splitPieces(0)=3 splitLead(0)=3 setCornerLimit(2)=1 splitPieces(0)=2"
                        + " splitLead(0)=2");
        new Run("promises 24 and 25, the most").load("0000000;".repeat(7), 1)
                .calls("setCellLimit(1)=12 splitPieces(0)=49 splitLead(0)=84 applySplit(0)=49"
                        + " leadLength()=84");
    }

    private static void applySplit() {
        new Run("promise 26").calls("applySplit(0)=-2 applySplit(1)=-1 applySplit(-1)=-1 undo()=-2");
        new Run("promise 26, the line with the least lead").load("0000;0000;", 1)
                .calls("setCellLimit(4)=12 applySplit(0)=2 paneAt(1,1)=0 paneAt(0,2)=1"
                        + " leadLength()=2 removeCut(0,1,0)=1 removeCut(1,1,0)=0");
        new Run("promise 26, a horizontal line, the first").calls("setCellLimit(6)=12"
                + " applySplit(0)=2 paneAt(0,2)=0 paneAt(1,0)=1 paneAt(2,2)=1 looseCuts()=0"
                + " removeCut(0,1,1)=2 undo()=2 undo()=1 paneCount()=1");
        new Run("promise 26, the first of two vertical lines").load("000;010;", 2)
                .calls("applySplit(0)=3 paneAt(0,1)=1 paneAt(1,2)=1 paneAt(1,0)=0 paneAt(1,1)=2"
                        + " removeCut(0,0,0)=0");
        new Run("promise 26, cuts that are there stay").load("0000;0000;", 1)
                .calls("addCut(0,0,0)=1 addCut(0,1,0)=2 setCellLimit(4)=12 applySplit(0)=2"
                        + " looseCuts()=1 removeCut(1,1,0)=2 removeCut(0,0,0)=1"
                        + " removeCut(0,1,0)=0");
        new Run("promise 26, other panes stay whole").load("000;011;011;000;", 2)
                .calls("setCellLimit(4)=12 splitPieces(0)=2 splitLead(0)=1 applySplit(0)=3"
                        + " paneSize(1)=4 removeCut(1,0,1)=0");
        new Run("promise 26, another plan after an edit").calls("setCellLimit(3)=12"
                + " splitPieces(0)=3 setCellLimit(1)=3 splitPieces(0)=9 setColour(0,0,1)=0"
                + " splitPieces(0)=1 splitPieces(1)=8 undo()=2 splitPieces(0)=9 applySplit(0)=9"
                + " applySplit(0)=-2");
    }

    private static void equalNeighbours() {
        new Run("promise 27").calls("equalNeighbours()=0 setCellLimit(3)=12 applySplit(0)=3"
                + " equalNeighbours()=2 setColour(1,0,1)=0 setColour(1,1,1)=0 setColour(1,2,1)=0"
                + " paneCount()=3 equalNeighbours()=0");
        new Run("promise 27, corners do not count").load("01;10;", 4).calls("equalNeighbours()=0");
        new Run("promise 27, once for each pair").load("111;111;", 1).calls("addCut(0,0,1)=1"
                + " addCut(0,1,1)=2 addCut(0,2,1)=3 equalNeighbours()=1 setColour(1,2,3)=1"
                + " equalNeighbours()=1");
    }

    private static void colourCount() {
        new Run("promise 28").calls("colourCount(0)=1 colourCount(1)=1 colourCount(2)=1"
                + " colourCount(-1)=-1 colourCount(3)=-1");
        new Run("promise 28").load("4441;3033;", 5)
                .calls("colourCount(0)=4 colourCount(1)=3 colourCount(2)=3");
        new Run("promise 28").load("002;313;355;", 6)
                .calls("colourCount(0)=4 colourCount(1)=4 colourCount(2)=3");
        new Run("promise 28, the most panes").load("0101010;1010101;".repeat(3) + "0101010;", 49)
                .calls("colourCount(0)=2 suggestedColour(0,48)=0 suggestedColour(0,47)=1");
    }

    private static void suggestedColour() {
        due(new Run("promise 29, four in a row").load("0123;", 4), 0, 0, 1, 0, 1);
        due(new Run("promise 29, four in a row").load("0123;", 4), 1, 1, 0, 1, 0);
        due(new Run("promise 29, four in a row").load("0123;", 4), 2, 1, 0, 1, 0);
        due(new Run("promise 29, five in a row").load("01234;", 5), 0, 0, 1, 0, 1, 0);
        due(new Run("promise 29, five in a row").load("01234;", 5), 1, 1, 0, 1, 0, 1);
        due(new Run("promise 29, five in a row").load("01234;", 5), 2, 0, 1, 0, 1, 0);
        due(new Run("promise 29, five panes").load("4441;3033;", 5), 0, 0, 1, 1, 2, 3);
        due(new Run("promise 29, five panes").load("4441;3033;", 5), 1, 0, 1, 2, 1, 2);
        due(new Run("promise 29, five panes").load("4441;3033;", 5), 2, 2, 1, 0, 1, 0);
        due(new Run("promise 29, six panes").load("002;313;355;", 6), 1, 1, 0, 2, 0, 1, 3);
        due(new Run("promise 29, six panes").load("002;313;355;", 6), 2, 0, 2, 1, 2, 1, 0);
        new Run("promise 29, wrong").calls("suggestedColour(0,0)=0 suggestedColour(-1,0)=-1"
                + " suggestedColour(3,0)=-1 suggestedColour(0,-1)=-1 suggestedColour(0,1)=-1"
                + " suggestedColour(3,1)=-1");
    }

    private static void due(Run run, int order, int... numbers) {
        for (int pane = 0; pane < numbers.length; pane++) {
            run.calls("suggestedColour(" + order + "," + pane + ")=" + numbers[pane]);
        }
    }

    private static void bestOrder() {
        new Run("promise 30, all alike").calls("bestOrder()=0");
        new Run("promise 30, two alike").load("4441;3033;", 5).calls("bestOrder()=1");
        new Run("promise 30, the last").load("002;313;355;", 6).calls("bestOrder()=2");
        new Run("promise 30, the middle one alone").load("51533;54213;00253;", 9)
                .calls("colourCount(0)=4 colourCount(1)=3 colourCount(2)=4 bestOrder()=1");
    }

    private static void largestClique() {
        new Run("promise 31, one").calls("largestClique()=1");
        new Run("promise 31, two").load("01;23;", 4).calls("largestClique()=2");
        new Run("promise 31, three").load("00;12;", 3).calls("largestClique()=3");
        new Run("promise 31, four").load("00000;01120;01330;00000;", 4).calls("largestClique()=4");
        new Run("promise 31, four of more").load("500000;501120;501330;500000;", 5)
                .calls("largestClique()=4");
        new Run("promise 31, the most panes").load("0101010;1010101;".repeat(3) + "0101010;", 49)
                .calls("largestClique()=2");
    }

    private static void undo() {
        new Run("promise 32, eight of nine").calls("setColour(0,0,1)=0 setColour(0,1,1)=0"
                + " setColour(0,2,1)=0 setColour(1,0,1)=0 setColour(1,1,1)=0 setColour(1,2,1)=0"
                + " setColour(2,0,1)=0 setColour(2,1,1)=0 setColour(2,2,1)=0"
                + " undo()=7 undo()=6 undo()=5 undo()=4 undo()=3 undo()=2 undo()=1 undo()=0"
                + " undo()=-2 colourAt(0,0)=1 colourAt(0,1)=0 colourAt(2,2)=0");
        new Run("promise 32, edits after undo").calls("setColour(0,0,1)=0 setColour(0,0,2)=1"
                + " undo()=1 colourAt(0,0)=1 setColour(0,0,3)=1 undo()=1 colourAt(0,0)=1 undo()=0"
                + " colourAt(0,0)=0 undo()=-2");
        new Run("promise 32, many").times(100, "setCellLimit(12)=12").calls("setCellLimit(5)=12"
                + " undo()=7 setCellLimit(6)=12 setCellLimit(7)=6 undo()=7 undo()=6 undo()=5");
        new Run("promise 32, errors are no edits").calls("setColour(0,0,0)=-2 addCut(0,0,2)=-1"
                + " removeCut(0,0,0)=-2 removeLooseCuts()=-2 setCellLimit(0)=-1"
                + " setCornerLimit(9)=-1 applySplit(0)=-2 loadDrawing()=-10 undo()=-2");
        new Run("promise 32, questions are no edits").calls("rows()=3 paneCount()=1 splitPieces(0)=1"
                + " bestOrder()=0 largestClique()=1 undo()=-2");
        new Run("promise 32, the text stays").calls("setColour(0,0,1)=0").type("0;")
                .calls("undo()=0 loadDrawing()=1 undo()=0 clearText()=0");
    }

    private static void undoEachEdit() {
        new Run("promise 32, loadDrawing").calls("addCut(1,1,0)=1 setColour(2,2,4)=0")
                .load("5;", 1).calls("undo()=2 rows()=3 columns()=3 colourAt(2,2)=4 looseCuts()=1"
                        + " colourAt(0,0)=0");
        new Run("promise 32, setColour").calls("setColour(1,1,2)=0 undo()=0 colourAt(1,1)=0"
                + " paneCount()=1");
        new Run("promise 32, addCut").calls("addCut(1,1,1)=1 undo()=0 looseCuts()=0"
                + " removeCut(1,1,1)=-2");
        new Run("promise 32, removeCut").calls("addCut(1,1,0)=1 removeCut(1,1,0)=0 undo()=1"
                + " looseCuts()=1 addCut(1,1,0)=-2");
        new Run("promise 32, removeLooseCuts").calls("addCut(1,1,0)=1 addCut(0,1,1)=2"
                + " removeLooseCuts()=2 undo()=2 looseCuts()=2");
        new Run("promise 32, setCellLimit").calls("setCellLimit(4)=12 undo()=0 canBeCut(0)=1"
                + " setCellLimit(12)=12 undo()=0");
        new Run("promise 32, setCornerLimit").calls("setCornerLimit(4)=1 undo()=0"
                + " setCornerLimit(1)=1 undo()=0");
        new Run("promise 32, applySplit").calls("setCellLimit(3)=12 applySplit(0)=3 undo()=1"
                + " paneCount()=1 leadLength()=0 addCut(0,0,1)=1");
    }
}
