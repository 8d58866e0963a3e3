/** What the description says of the drawing, of cuts, of panes and of easy sets. */
final class DrawingSentences {
    private static final String FULL = "0000000;".repeat(7);
    private static final String CHECKERED = "0101010;1010101;".repeat(3) + "0101010;";

    private DrawingSentences() { }

    static void check() {
        calls();
        size();
        colours();
        neighbours();
        cuts();
        joined();
        panes();
        neighbouringPanes();
        lead();
        loose();
        innerCorners();
        holes();
        easyByCells();
        easyByCorners();
        easyByHoles();
    }

    private static Sentence of(String words) {
        return new Sentence("Description", words);
    }

    private static void calls() {
        new Sentence("What it is", "An object is used for at most 512 calls after it has been made")
                .run().times(251, "setColour(2,2,5)=0 setColour(2,2,0)=5")
                .calls("setColour(2,2,4)=0 undo()=7 undo()=6 undo()=5 undo()=4 undo()=3 undo()=2"
                        + " undo()=1 undo()=0 undo()=-2");
    }

    private static void size() {
        of("The drawing has 1 to 7 rows and 1 to 7 columns of cells, numbered from 0")
                .on("0;", 1, "rows()=1 columns()=1 colourAt(0,0)=0 colourAt(1,0)=-1"
                        + " colourAt(0,1)=-1 colourAt(-1,0)=-1 colourAt(0,-1)=-1")
                .on("0000001;", 2, "rows()=1 columns()=7 colourAt(0,6)=1 colourAt(0,7)=-1"
                        + " colourAt(1,0)=-1")
                .on("0;0;0;0;0;0;1;", 2, "rows()=7 columns()=1 colourAt(6,0)=1 colourAt(7,0)=-1"
                        + " colourAt(0,1)=-1")
                .on(FULL, 1, "rows()=7 columns()=7 colourAt(6,6)=0 colourAt(7,6)=-1"
                        + " colourAt(6,7)=-1 paneSize(0)=49")
                .typed("", "loadDrawing()=-10 rows()=3")
                .typed(";", "loadDrawing()=-10 columns()=3")
                .typed("0;".repeat(8), "loadDrawing()=-24 rows()=3")
                .typed("00000000;", "loadDrawing()=-17 columns()=3");
        of("initially it has 3 rows and 3 columns")
                .calls("rows()=3 columns()=3 colourAt(2,2)=0 colourAt(3,2)=-1 colourAt(2,3)=-1"
                        + " paneSize(0)=9");
    }

    private static void colours() {
        of("Each cell has a colour from 0 to 5")
                .on("0;", 1, "colourAt(0,0)=0 setColour(0,0,5)=0 colourAt(0,0)=5")
                .on("5;", 1, "colourAt(0,0)=5 setColour(0,0,6)=-1 setColour(0,0,-1)=-1"
                        + " setColour(0,0,0)=5 colourAt(0,0)=0")
                .typed("6;", "loadDrawing()=-10")
                .typed("/;", "loadDrawing()=-10");
        Sentence initially = of("initially 0");
        for (int cell = 0; cell < 9; cell++) {
            String place = cell / 3 + "," + cell % 3;
            initially.calls("colourAt(" + place + ")=0 setColour(" + place + ",0)=-2");
        }
    }

    private static void neighbours() {
        of("Two cells are neighbours if they have a side in common")
                .on("012;345;012;", 9, "neighbourCount(0)=2 neighbourCount(1)=3 neighbourCount(2)=2"
                        + " neighbourCount(3)=3 neighbourCount(4)=4 neighbourCount(5)=3"
                        + " neighbourCount(6)=2 neighbourCount(7)=3 neighbourCount(8)=2"
                        + " leadLength()=12")
                .on("01;10;", 4, "paneAt(1,1)=3")
                .on("0000001;1000000;", 3, "paneAt(0,6)=1 paneAt(1,0)=2 neighbourCount(1)=1"
                        + " neighbourCount(2)=1")
                .on("1222221;".repeat(3), 3, "paneAt(0,6)=2 paneAt(2,0)=0");
    }

    private static void cuts() {
        of("There may be cuts.").on(FULL, 1, "looseCuts()=0 addCut(3,3,0)=1 looseCuts()=1");
        of("A cut lies between two neighbours: cut (r, c, 0) between the cells (r, c) and"
                + " (r, c + 1), and cut (r, c, 1) between the cells (r, c) and (r + 1, c).")
                .on("00;", 1, "addCut(0,0,1)=-1 addCut(0,0,0)=1 paneAt(0,1)=1 addCut(0,1,0)=-1")
                .on("0;0;", 1, "addCut(0,0,0)=-1 addCut(0,0,1)=1 paneAt(1,0)=1 addCut(1,0,1)=-1")
                .on("00;00;", 1, "addCut(0,0,0)=1 addCut(1,0,0)=2 paneAt(1,0)=0 paneAt(0,1)=1")
                .on("00;00;", 1, "addCut(0,0,1)=1 addCut(0,1,1)=2 paneAt(0,1)=0 paneAt(1,0)=1")
                .on(FULL, 1, "addCut(6,5,0)=1 addCut(5,6,1)=2 paneAt(6,6)=1 paneCount()=2"
                        + " addCut(6,6,0)=-1 addCut(6,6,1)=-1 addCut(0,5,0)=3 addCut(0,6,1)=4"
                        + " paneAt(0,6)=1 paneAt(6,6)=2 addCut(6,0,0)=5 addCut(5,0,1)=6"
                        + " paneAt(6,0)=2 addCut(0,0,0)=7 addCut(0,0,1)=8 paneAt(0,0)=0"
                        + " paneAt(0,1)=1 paneCount()=5 looseCuts()=0");
        Sentence none = of("Initially there is none.").calls("looseCuts()=0 addCut(1,1,1)=1");
        for (int row = 0; row < 3; row++) {
            for (int column = 0; column < 3; column++) {
                String place = row + "," + column;
                none.calls("removeCut(" + place + ",0)=" + (column < 2 ? -2 : -1)
                        + " removeCut(" + place + ",1)=" + (row < 2 ? -2 : -1));
            }
        }
    }

    private static void joined() {
        of("Two neighbours are joined if they have the same colour and there is no cut between"
                + " them.")
                .on("55;", 1, "paneAt(0,1)=0 addCut(0,0,0)=1 paneAt(0,1)=1 removeCut(0,0,0)=0"
                        + " paneAt(0,1)=0")
                .on("54;", 2, "paneAt(0,1)=1 addCut(0,0,0)=1 paneAt(0,1)=1 setColour(0,1,5)=4"
                        + " paneAt(0,1)=1 removeCut(0,0,0)=0 paneAt(0,1)=0")
                .on("5;5;", 1, "paneAt(1,0)=0 addCut(0,0,1)=1 paneAt(1,0)=1 removeCut(0,0,1)=0"
                        + " paneAt(1,0)=0")
                .on("5;4;", 2, "paneAt(1,0)=1 addCut(0,0,1)=1 setColour(1,0,5)=4 paneAt(1,0)=1"
                        + " removeCut(0,0,1)=0 paneAt(1,0)=0");
    }

    /** Cuts below all rows but at one end, left and right in turn: a chain through all 49 cells. */
    private static String snake() {
        StringBuilder script = new StringBuilder();
        for (int row = 0; row < 6; row++) {
            int first = row % 2;
            for (int i = 0; i < 6; i++) {
                script.append(" addCut(").append(row).append(',').append(i + 1 - first)
                        .append(",1)=").append(6 * row + i + 1);
            }
        }
        return script.toString();
    }

    private static void panes() {
        Sentence chain = of("A pane is a largest set of cells in which any two cells are connected"
                + " by a chain of joined neighbours.")
                .on("000;010;000;", 2, "paneSize(0)=8 paneSize(1)=1")
                .on("01;10;", 4, "paneSize(0)=1")
                .on("010;111;101;111;", 4, "paneSize(1)=9 paneAt(3,1)=1")
                .on("01000;00010;00000;", 3, "paneSize(0)=13 paneAt(1,4)=0")
                .on("0000000;1111110;0000000;0111111;0000000;1111110;0000000;", 4,
                        "paneSize(0)=31 paneAt(6,0)=0 setColour(3,0,1)=0 paneSize(0)=15"
                                + " paneAt(4,0)=3")
                .on("0000000;0111110;0100010;0101010;0101110;0100000;0111111;", 2,
                        "paneSize(0)=28 paneSize(1)=21 paneAt(3,3)=1 paneAt(3,4)=0"
                                + " setColour(0,6,1)=0 paneSize(0)=12 paneCount()=4");
        chain.run().load(FULL, 1).calls(snake()).calls("paneCount()=1 paneSize(0)=49 looseCuts()=36"
                + " paneAt(6,6)=0 addCut(3,3,0)=37 paneCount()=2 looseCuts()=29");
        of("Panes are numbered from 0 in the order of their first cells, by row and then by column")
                .on("001;200;", 3, "paneAt(0,0)=0 paneAt(1,2)=0 paneAt(0,2)=1 paneAt(1,0)=2")
                .on("12;21;", 4, "paneAt(0,0)=0 paneAt(0,1)=1 paneAt(1,0)=2 paneAt(1,1)=3")
                .on("53;33;", 2, "paneAt(0,0)=0 paneAt(1,0)=1 paneSize(1)=3")
                .on(CHECKERED, 49, "paneAt(0,0)=0 paneAt(0,6)=6 paneAt(1,0)=7 paneAt(6,0)=42"
                        + " paneAt(6,6)=48 paneSize(48)=1 paneSize(49)=-1");
    }

    private static void neighbouringPanes() {
        of("Two different panes are neighbours if a cell of the one is a neighbour of a cell of the"
                + " other one.")
                .calls("neighbourCount(0)=0 addCut(1,1,0)=1 neighbourCount(0)=0 setColour(1,1,3)=0"
                        + " neighbourCount(0)=1 neighbourCount(1)=1")
                .on("01;23;", 4, "neighbourCount(0)=2 neighbourCount(3)=2")
                .on("010;020;000;", 3, "neighbourCount(0)=2 neighbourCount(1)=2")
                .on("000;120;000;", 3, "neighbourCount(0)=2 neighbourCount(1)=2")
                .on("00;00;", 1, "addCut(0,0,1)=1 addCut(0,1,1)=2 neighbourCount(0)=1"
                        + " neighbourCount(1)=1")
                .on("0000000;1213121;", 8, "neighbourCount(0)=7 neighbourCount(1)=2"
                        + " neighbourCount(2)=3 neighbourCount(7)=2");
    }

    private static void lead() {
        of("The lead length is the number of pairs of neighbouring cells that belong to different"
                + " panes.")
                .on("0;", 1, "leadLength()=0")
                .on(FULL, 1, "leadLength()=0 addCut(3,3,0)=1 addCut(3,3,1)=2 leadLength()=0")
                .on(CHECKERED, 49, "leadLength()=84 addCut(3,3,0)=1 leadLength()=84")
                .on("000;111;", 2, "leadLength()=3 setColour(1,1,0)=1 leadLength()=4")
                .on("00;00;", 1, "addCut(0,0,0)=1 leadLength()=0 addCut(1,0,0)=2 leadLength()=2");
    }

    private static void loose() {
        of("A cut is loose if both of its cells belong to the same pane.")
                .on("00;00;", 1, "addCut(0,0,0)=1 looseCuts()=1 addCut(1,0,0)=2 looseCuts()=0"
                        + " addCut(0,0,1)=3 looseCuts()=0 removeCut(0,0,1)=2 removeCut(0,0,0)=1"
                        + " looseCuts()=1")
                .on("01;00;", 2, "addCut(0,0,0)=1 looseCuts()=0 addCut(0,1,1)=2 looseCuts()=0"
                        + " setColour(0,1,0)=1 looseCuts()=0 addCut(0,0,1)=3 looseCuts()=0"
                        + " removeCut(0,0,0)=2 looseCuts()=0")
                .on("00;00;", 1, "addCut(0,0,1)=1 looseCuts()=1 setColour(1,0,3)=0 looseCuts()=0");
    }

    private static void innerCorners() {
        of("An inner corner of a set of cells is a point where four cells of the drawing meet,"
                + " exactly three of which belong to the set.")
                .on("00;00;", 1, "innerCorners(0)=0")
                .on("10;00;", 2, "innerCorners(0)=0 innerCorners(1)=1")
                .on("01;00;", 2, "innerCorners(0)=1 innerCorners(1)=0")
                .on("00;10;", 2, "innerCorners(0)=1 innerCorners(1)=0")
                .on("00;01;", 2, "innerCorners(0)=1 innerCorners(1)=0")
                .on("00;11;", 2, "innerCorners(0)=0 innerCorners(1)=0")
                .on("01;01;", 2, "innerCorners(0)=0 innerCorners(1)=0")
                .on("01;10;", 4, "innerCorners(0)=0 innerCorners(1)=0")
                .on("000;010;001;", 3, "innerCorners(0)=3 innerCorners(1)=0 innerCorners(2)=0")
                .on("000;010;100;", 3, "innerCorners(0)=3")
                .on("0000000;", 1, "innerCorners(0)=0")
                .on("0;0;0;0;0;0;0;", 1, "innerCorners(0)=0")
                .on("1000001;" + "0000000;".repeat(5) + "1000001;", 5, "innerCorners(1)=4"
                        + " innerCorners(0)=0 innerCorners(4)=0")
                .on("0000000;0101010;".repeat(3) + "0000000;", 10, "innerCorners(0)=36")
                .calls("addCut(0,0,0)=1 innerCorners(0)=0 addCut(0,0,1)=2 innerCorners(1)=1");
    }

    private static void holes() {
        of("A hole of a set of cells is a largest set of other cells of the drawing that are"
                + " connected by common sides or corners and of which none lies at the edge of the"
                + " drawing.")
                .on(FULL, 1, "holes(0)=0 setColour(1,1,1)=0 holes(0)=1 setColour(5,5,1)=0"
                        + " holes(0)=2 setColour(3,3,1)=0 holes(0)=3 setColour(2,2,1)=0 holes(0)=2"
                        + " setColour(4,4,1)=0 holes(0)=1")
                .on("010;000;000;", 2, "holes(0)=0 setColour(1,1,1)=0 holes(0)=0"
                        + " setColour(0,1,0)=1 holes(0)=1")
                .on("000;000;010;", 2, "holes(0)=0 setColour(1,1,1)=0 holes(0)=0"
                        + " setColour(2,1,0)=1 holes(0)=1")
                .on("000;100;000;", 2, "holes(0)=0 setColour(1,1,1)=0 holes(0)=0"
                        + " setColour(1,0,0)=1 holes(0)=1")
                .on("000;001;000;", 2, "holes(0)=0 setColour(1,1,1)=0 holes(0)=0"
                        + " setColour(1,2,0)=1 holes(0)=1")
                .on("100;010;000;", 3, "holes(1)=0 setColour(0,0,0)=1 holes(0)=1")
                .on("001;010;000;", 3, "holes(0)=0 setColour(0,2,0)=1 holes(0)=1")
                .on("000;010;100;", 3, "holes(0)=0 setColour(2,0,0)=1 holes(0)=1")
                .on("000;010;001;", 3, "holes(0)=0 setColour(2,2,0)=1 holes(0)=1")
                .on("00000;01230;00000;", 4, "holes(0)=1 holes(1)=0 holes(2)=0")
                .on("0000;0120;0450;0000;", 5, "holes(0)=1 setColour(0,0,1)=0 holes(1)=0")
                .on("00000;01110;01010;01110;00000;", 3, "holes(0)=1 holes(1)=1 holes(2)=0")
                .on("0000000;0101010;".repeat(3) + "0000000;", 10, "holes(0)=9 holes(9)=0")
                .on("000;000;", 1, "setColour(0,1,1)=0 holes(0)=0")
                .on("00;00;00;", 1, "setColour(1,0,1)=0 holes(0)=0")
                .on("000;", 1, "setColour(0,1,1)=0 holes(0)=0 holes(1)=0 holes(2)=0")
                .on("0000000;0111110;0100010;0101010;0100110;0111110;0000000;", 4,
                        "holes(0)=1 holes(1)=1 holes(2)=0 holes(3)=0");
        of("none lies at the edge of the drawing").calls("addCut(0,1,1)=1 addCut(1,0,0)=2"
                + " addCut(1,1,0)=3 holes(0)=0 addCut(1,1,1)=4 holes(0)=1 holes(1)=0"
                + " removeCut(1,0,0)=3 holes(0)=0");
    }

    private static void easyByCells() {
        of("A set of cells is easy if it has at most as many cells as the cell limit says (1 to 49,"
                + " initially 12)")
                .on("000000;000000;", 1, "canBeCut(0)=1")
                .on("0000000;0000001;", 2, "canBeCut(0)=0 setCellLimit(13)=12 canBeCut(0)=1"
                        + " setCellLimit(12)=13 canBeCut(0)=0")
                .on("0;", 1, "setCellLimit(1)=12 canBeCut(0)=1")
                .on("00;", 1, "setCellLimit(1)=12 canBeCut(0)=0 setCellLimit(2)=1 canBeCut(0)=1")
                .on(FULL, 1, "setCellLimit(48)=12 canBeCut(0)=0 setCellLimit(49)=48 canBeCut(0)=1")
                .calls("setCellLimit(0)=-1 setCellLimit(50)=-1 setCellLimit(49)=12"
                        + " setCellLimit(1)=49 canBeCut(0)=0");
    }

    private static void easyByCorners() {
        of("at most as many inner corners as the corner limit says (0 to 8, initially 1)")
                .on("000;001;", 2, "innerCorners(0)=1 canBeCut(0)=1 setCornerLimit(0)=1"
                        + " canBeCut(0)=0")
                .on("000;000;", 1, "innerCorners(0)=0 setCornerLimit(0)=1 canBeCut(0)=1")
                .on("000;010;", 2, "innerCorners(0)=2 canBeCut(0)=0 setCornerLimit(2)=1"
                        + " canBeCut(0)=1")
                .on("0101000;0000000;0101000;", 5, "setCellLimit(49)=12 innerCorners(0)=8"
                        + " setCornerLimit(7)=1 canBeCut(0)=0 setCornerLimit(8)=7 canBeCut(0)=1")
                .on("0101001;0000000;0101000;", 6, "setCellLimit(49)=12 innerCorners(0)=9"
                        + " setCornerLimit(8)=1 canBeCut(0)=0 setCornerLimit(9)=-1 canBeCut(0)=0")
                .calls("setCornerLimit(-1)=-1 setCornerLimit(9)=-1 setCornerLimit(8)=1"
                        + " setCornerLimit(0)=8 setCornerLimit(1)=0");
    }

    private static void easyByHoles() {
        of("and no hole.").on("0000;0110;0000;", 2, "setCellLimit(49)=12 setCornerLimit(8)=1"
                + " innerCorners(0)=4 paneSize(0)=10 canBeCut(0)=0 setColour(0,2,1)=0"
                + " canBeCut(0)=1");
        of("A pane can be cut if it is easy.").on("00;01;", 2, "canBeCut(0)=1 canBeCut(1)=1"
                + " cuttableCount()=2 setCellLimit(2)=12 canBeCut(0)=0 canBeCut(1)=1"
                + " cuttableCount()=1 setCellLimit(3)=2 canBeCut(0)=1 setCornerLimit(0)=1"
                + " canBeCut(0)=0 canBeCut(1)=1 cuttableCount()=1");
    }
}
