/** What the description says of split plans. */
final class PlanSentences {
    private PlanSentences() { }

    static void check() {
        parts();
        fragments();
        noLine();
        firstAndLastLines();
        shortRectangles();
        sums();
        choice();
        ties();
        application();
    }

    private static Sentence of(String words) {
        return new Sentence("Description", words);
    }

    private static void parts() {
        of("A split plan divides a pane.")
                .calls("setCellLimit(8)=12 splitPieces(0)=2 applySplit(0)=2 paneSize(0)=3"
                        + " paneSize(1)=6");
        of("It is defined for each part of the pane, that is, for the cells of the pane in a"
                + " rectangle of rows r1 to r2 and columns c1 to c2")
                .on("00011;00011;00011;", 2, "setCellLimit(5)=12 splitPieces(0)=3 splitLead(0)=5"
                        + " splitPieces(1)=2 splitLead(1)=2 applySplit(1)=3 paneAt(0,3)=1"
                        + " paneAt(1,3)=2 paneAt(2,0)=0 paneCount()=3");
        of("the plan of the pane is that of its part in the smallest rectangle that contains it")
                .on("11111;11111;12221;12221;11111;", 2, "setCellLimit(3)=12 splitPieces(1)=2"
                        + " splitLead(1)=3 applySplit(1)=3 paneAt(2,3)=1 paneAt(3,1)=2")
                .on("1111111;".repeat(5) + "1111122;1111122;", 2, "setCellLimit(2)=12"
                        + " splitPieces(1)=2 splitLead(1)=2 applySplit(1)=3 paneAt(5,6)=1"
                        + " paneAt(6,5)=2")
                .on("22;22;", 1, "setCellLimit(2)=12 splitPieces(0)=2 splitLead(0)=2");
    }

    private static void fragments() {
        of("The fragments of a part are its largest subsets in which any two cells are connected by"
                + " a chain of joined neighbours that lies within the part.")
                .on("000;010;010;", 2, "setCornerLimit(0)=1 splitPieces(0)=3 splitLead(0)=2"
                        + " applySplit(0)=4 paneAt(0,2)=0 paneAt(1,0)=1 paneAt(1,1)=2 paneAt(1,2)=3"
                        + " paneAt(2,0)=1 paneAt(2,2)=3")
                .on("00;00;", 1, "addCut(0,0,0)=1 setCellLimit(2)=12 splitPieces(0)=2"
                        + " splitLead(0)=1 applySplit(0)=2 paneAt(0,1)=1 paneAt(1,0)=0")
                .on("00;00;", 1, "addCut(0,0,1)=1 setCellLimit(2)=12 splitPieces(0)=2"
                        + " splitLead(0)=1 applySplit(0)=2 paneAt(0,1)=0 paneAt(1,0)=1");
        of("(An empty part has no fragments.)")
                .on("000;010;000;", 2, "setCellLimit(1)=12 splitPieces(0)=8 splitLead(0)=8"
                        + " applySplit(0)=9 splitPieces(4)=1 cuttableCount()=9")
                .on("0001;0111;0001;", 2, "setCellLimit(1)=12 splitPieces(0)=7 splitLead(0)=6");
    }

    private static void noLine() {
        of("If all fragments of a part are easy, its plan makes no line; its pieces are as many as"
                + " its fragments, and its lead is 0.")
                .calls("splitPieces(0)=1 splitLead(0)=0 setCellLimit(9)=12 splitPieces(0)=1"
                        + " splitLead(0)=0 setCellLimit(8)=9 splitPieces(0)=2 splitLead(0)=3")
                .on("0000000;0111110;", 2, "setCellLimit(7)=12 setCornerLimit(0)=1 splitPieces(0)=3"
                        + " splitLead(0)=2 applySplit(0)=4 paneSize(0)=7 paneSize(1)=1"
                        + " paneSize(3)=1")
                .on("0000000;0101010;", 4, "setCornerLimit(0)=1 splitPieces(0)=5 splitLead(0)=4");
    }

    /** One line is enough in each of these, and it is the one with the least lead. */
    private static void firstAndLastLines() {
        of("Otherwise the plan makes a line across the rectangle, either a horizontal line below a"
                + " row k (r1 to r2 - 1) or a vertical line to the right of a column k (c1 to"
                + " c2 - 1), and then follows the plans of the two parts in the two rectangles that"
                + " result.")
                .on("01;00;00;00;", 2, "setCornerLimit(0)=1 splitPieces(0)=2 splitLead(0)=1"
                        + " applySplit(0)=3 paneSize(0)=1 paneAt(1,0)=2 paneAt(3,1)=2")
                .on("00;00;00;01;", 2, "setCornerLimit(0)=1 splitPieces(0)=2 splitLead(0)=1"
                        + " applySplit(0)=3 paneSize(0)=6 paneAt(3,0)=1")
                .on("0000;1000;", 2, "setCornerLimit(0)=1 splitPieces(0)=2 splitLead(0)=1"
                        + " applySplit(0)=3 paneSize(0)=1 paneAt(0,1)=1 paneAt(1,3)=1")
                .on("0000;0001;", 2, "setCornerLimit(0)=1 splitPieces(0)=2 splitLead(0)=1"
                        + " applySplit(0)=3 paneSize(0)=6 paneAt(0,3)=1")
                .on("0000000;".repeat(6) + "1111110;", 2, "setCellLimit(42)=12 setCornerLimit(0)=1"
                        + " splitPieces(0)=2 splitLead(0)=1 applySplit(0)=3 paneSize(0)=42"
                        + " paneAt(6,6)=2")
                .on("0000001;".repeat(6) + "0000000;", 2, "setCellLimit(42)=12 setCornerLimit(0)=1"
                        + " splitPieces(0)=2 splitLead(0)=1 applySplit(0)=3 paneSize(0)=42"
                        + " paneAt(6,6)=2");
    }

    private static void shortRectangles() {
        Sentence follows = of("and then follows the plans of the two parts in the two rectangles"
                + " that result.");
        for (int limit = 1; limit <= 7; limit++) {
            int pieces = (7 + limit - 1) / limit;
            String due = "setCellLimit(" + limit + ")=12 splitPieces(0)=" + pieces
                    + " splitLead(0)=" + (pieces - 1)
                    + " applySplit(0)=" + (pieces == 1 ? -2 : pieces);
            follows.on("0000000;", 1, due).on("0;0;0;0;0;0;0;", 1, due);
        }
        follows.on("0000000;".repeat(7), 1, "setCellLimit(1)=12 splitPieces(0)=49 splitLead(0)=84"
                + " applySplit(0)=49 leadLength()=84");
        theOtherWayWithin(follows);
    }

    /** One of the two parts is divided by a line that lies the other way than the first one. */
    private static void theOtherWayWithin(Sentence follows) {
        follows.on("01;00;00;01;", 3, "setCellLimit(2)=12 splitPieces(0)=3 splitLead(0)=3"
                + " applySplit(0)=5 paneAt(1,0)=0 paneAt(1,1)=2 paneAt(2,1)=2 paneAt(2,0)=3"
                + " paneAt(3,0)=3")
                .on("10;00;00;10;", 3, "setCellLimit(2)=12 splitPieces(1)=3 splitLead(1)=3"
                        + " applySplit(1)=5 paneAt(0,1)=1 paneAt(1,1)=1 paneAt(1,0)=2"
                        + " paneAt(2,0)=2 paneAt(2,1)=3 paneAt(3,1)=3")
                .on("0000;1001;", 3, "setCellLimit(2)=12 splitPieces(0)=3 splitLead(0)=3"
                        + " applySplit(0)=5 paneAt(0,1)=0 paneAt(0,2)=1 paneAt(0,3)=1"
                        + " paneAt(1,1)=3 paneAt(1,2)=3")
                .on("1001;0000;", 3, "setCellLimit(2)=12 splitPieces(1)=3 splitLead(1)=3"
                        + " applySplit(1)=5 paneAt(0,1)=1 paneAt(0,2)=1 paneAt(1,0)=3"
                        + " paneAt(1,1)=3 paneAt(1,2)=4 paneAt(1,3)=4");
    }

    private static void sums() {
        of("Its pieces are the sum of those of the two parts.")
                .on("00000;", 1, "setCellLimit(2)=12 splitPieces(0)=3")
                .on("00000;01110;", 2, "setCornerLimit(0)=1 splitPieces(0)=3 setCellLimit(2)=12"
                        + " splitPieces(0)=4");
        of("Its lead is the sum of the leads of the two parts, plus the number of joined neighbours"
                + " of the pane that the line separates within the rectangle.")
                .on("0000;0000;", 1, "setCellLimit(2)=12 splitPieces(0)=4 splitLead(0)=6"
                        + " setCellLimit(4)=2 splitLead(0)=2")
                .calls("setCellLimit(4)=12 splitPieces(0)=3 splitLead(0)=5")
                .on("000;011;011;000;", 2, "setCellLimit(4)=12 splitPieces(0)=2 splitLead(0)=1")
                .on("0000;0110;0110;", 2, "setCellLimit(4)=12 splitPieces(0)=2 splitLead(0)=1")
                .on("0000;0000;", 1, "addCut(0,1,0)=1 setCellLimit(4)=12 splitLead(0)=1"
                        + " addCut(1,1,0)=2 splitPieces(0)=1 splitLead(0)=0");
    }

    private static void choice() {
        of("The line is chosen so that the pieces are fewest")
                .on("00000;00001;", 2, "setCellLimit(5)=12 setCornerLimit(0)=1 splitPieces(0)=2"
                        + " splitLead(0)=4 applySplit(0)=3 paneSize(0)=5 paneAt(1,3)=1")
                .on("00;00;00;00;01;", 2, "setCellLimit(5)=12 setCornerLimit(0)=1 splitPieces(0)=2"
                        + " splitLead(0)=4 applySplit(0)=3 paneSize(0)=5 paneAt(3,1)=1");
        of("among such lines so that the lead is least")
                .on("0000;0000;", 1, "setCellLimit(4)=12 splitLead(0)=2 applySplit(0)=2"
                        + " paneAt(1,1)=0 paneAt(0,2)=1")
                .on("00;00;01;", 2, "setCellLimit(4)=12 splitPieces(0)=2 splitLead(0)=1"
                        + " applySplit(0)=3 paneSize(0)=4 paneAt(2,0)=1")
                .on("000;001;", 2, "setCellLimit(4)=12 splitPieces(0)=2 splitLead(0)=1"
                        + " applySplit(0)=3 paneSize(0)=4 paneAt(0,2)=1");
    }

    private static void ties() {
        of("among such lines, horizontal ones come before vertical ones")
                .on("00;00;", 1, "setCellLimit(2)=12 applySplit(0)=2 paneAt(0,1)=0 paneAt(1,0)=1"
                        + " removeCut(0,0,1)=1 removeCut(0,1,1)=0")
                .calls("setCellLimit(6)=12 applySplit(0)=2 paneAt(0,2)=0 paneAt(2,0)=1")
                .on("00;01;", 2, "setCornerLimit(0)=1 splitLead(0)=1 applySplit(0)=3 paneAt(0,1)=0"
                        + " paneAt(1,0)=1");
        of("and smaller k before greater ones")
                .calls("setCellLimit(6)=12 applySplit(0)=2 paneSize(0)=3 paneAt(1,0)=1")
                .on("0;0;0;0;", 1, "setCellLimit(3)=12 applySplit(0)=2 paneSize(0)=1")
                .on("0000;", 1, "setCellLimit(3)=12 applySplit(0)=2 paneSize(0)=1")
                .on("0000000;", 1, "setCellLimit(3)=12 applySplit(0)=3 paneSize(0)=1 paneSize(1)=3"
                        + " paneSize(2)=3")
                .on("000000;", 1, "setCellLimit(4)=12 applySplit(0)=2 paneSize(0)=2 paneSize(1)=4")
                .on("000;010;", 2, "applySplit(0)=3 paneAt(0,1)=1 removeCut(0,0,0)=0");
    }

    private static void application() {
        of("To apply the plan means to make a cut between any two joined neighbours that are"
                + " separated by a line of the plan.")
                .calls("setCellLimit(3)=12 applySplit(0)=3 removeCut(0,0,1)=5 removeCut(0,1,1)=4"
                        + " removeCut(0,2,1)=3 removeCut(1,0,1)=2 removeCut(1,1,1)=1"
                        + " removeCut(1,2,1)=0 paneCount()=1")
                .calls("setColour(1,1,3)=0 applySplit(0)=4 addCut(1,0,0)=4 addCut(1,1,0)=5"
                        + " addCut(0,1,1)=6 addCut(1,1,1)=7")
                .on("00;00;", 1, "addCut(0,0,1)=1 setCellLimit(2)=12 applySplit(0)=2"
                        + " removeCut(0,0,1)=1 removeCut(0,1,1)=0")
                .on("00;00;", 1, "addCut(0,0,0)=1 setCellLimit(1)=12 splitLead(0)=3"
                        + " applySplit(0)=4 removeCut(0,0,0)=3 removeCut(1,0,0)=2"
                        + " removeCut(0,0,1)=1 removeCut(0,1,1)=0")
                .on("000;011;011;000;", 2, "setCellLimit(4)=12 applySplit(0)=3 paneSize(1)=4"
                        + " removeCut(1,0,1)=0")
                .on("0000;0110;0110;", 2, "setCellLimit(4)=12 applySplit(0)=3 paneAt(0,2)=1"
                        + " paneSize(2)=4 removeCut(0,1,0)=0");
    }
}
