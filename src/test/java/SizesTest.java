/** Every size that a drawing may have, with cells and cuts inside, at the edge and beyond it. */
public final class SizesTest {
    private static final int MOST = 7;
    private static final int[] FAR = {-2147483648, -8, -1, 7, 8, 63, 64, 2147483647};

    public static void main(String[] args) {
        for (int rows = 1; rows <= MOST; rows++) {
            for (int columns = 1; columns <= MOST; columns++) {
                cells(rows, columns);
                beyond(rows, columns);
                cuts(rows, columns, 0);
                cuts(rows, columns, 1);
                singlePane(rows, columns);
                mostPanes(rows, columns);
            }
        }
        Run.end();
    }

    private static Run plain(int rows, int columns) {
        return new Run(rows + " rows, " + columns + " columns")
                .load(("0".repeat(columns) + ";").repeat(rows), 1);
    }

    private static int colour(int row, int column) {
        return (row + column) % 2 + 1;
    }

    /** A drawing in which no two neighbours have the same colour. */
    private static Run checkered(int rows, int columns) {
        StringBuilder text = new StringBuilder();
        for (int row = 0; row < rows; row++) {
            for (int column = 0; column < columns; column++) {
                text.append(colour(row, column));
            }
            text.append(';');
        }
        return new Run(rows + " rows, " + columns + " columns, checkered")
                .load(text.toString(), rows * columns);
    }

    private static String call(String method, int row, int column, String rest, int due) {
        return method + "(" + row + "," + column + rest + ")=" + due;
    }

    private static void cells(int rows, int columns) {
        Run run = checkered(rows, columns).calls("rows()=" + rows + " columns()=" + columns);
        for (int row = -1; row <= MOST; row++) {
            for (int column = -1; column <= MOST; column++) {
                boolean inside = row >= 0 && row < rows && column >= 0 && column < columns;
                int colour = inside ? colour(row, column) : -1;
                run.calls(call("colourAt", row, column, "", colour));
                run.calls(call("paneAt", row, column, "", inside ? row * columns + column : -1));
                run.calls(call("setColour", row, column, ",0", colour));
                if (inside) {
                    run.calls(call("setColour", row, column, "," + colour, 0));
                }
            }
        }
    }

    private static void beyond(int rows, int columns) {
        Run run = plain(rows, columns);
        for (int far : FAR) {
            run.calls(call("colourAt", far, 0, "", -1)).calls(call("colourAt", 0, far, "", -1))
                    .calls(call("paneAt", far, 0, "", -1)).calls(call("paneAt", 0, far, "", -1))
                    .calls(call("setColour", far, 0, ",1", -1))
                    .calls(call("setColour", 0, far, ",1", -1));
            for (int side = 0; side <= 1; side++) {
                run.calls(call("addCut", far, 0, "," + side, -1))
                        .calls(call("addCut", 0, far, "," + side, -1))
                        .calls(call("removeCut", far, 0, "," + side, -1))
                        .calls(call("removeCut", 0, far, "," + side, -1));
            }
            run.calls(call("addCut", 0, 0, "," + far, -1))
                    .calls(call("removeCut", 0, 0, "," + far, -1));
        }
        run.calls("paneCount()=1 looseCuts()=0 undo()=0 rows()=3");
    }

    private static void cuts(int rows, int columns, int side) {
        Run run = plain(rows, columns);
        String rest = "," + side;
        int lastRow = side == 1 ? rows - 2 : rows - 1;
        int lastColumn = side == 0 ? columns - 2 : columns - 1;
        int cuts = 0;
        for (int row = -1; row <= rows; row++) {
            for (int column = -1; column <= columns; column++) {
                boolean between = row >= 0 && row <= lastRow && column >= 0 && column <= lastColumn;
                run.calls(call("removeCut", row, column, rest, between ? -2 : -1));
                cuts += between ? 1 : 0;
                run.calls(call("addCut", row, column, rest, between ? cuts : -1));
                if (between) {
                    run.calls(call("addCut", row, column, rest, -2));
                }
            }
        }
        int panes = side == 0 ? columns : rows;
        run.calls("paneCount()=" + panes + " leadLength()=" + cuts + " looseCuts()=0"
                + " equalNeighbours()=" + (panes - 1));
        for (int row = lastRow; row >= 0; row--) {
            for (int column = lastColumn; column >= 0; column--) {
                cuts--;
                run.calls(call("removeCut", row, column, rest, cuts));
            }
        }
        run.calls("paneCount()=1 looseCuts()=0");
    }

    private static void singlePane(int rows, int columns) {
        int cells = rows * columns;
        Run run = plain(rows, columns).calls("paneSize(0)=" + cells + " innerCorners(0)=0"
                + " holes(0)=0 neighbourCount(0)=0 leadLength()=0 largestClique()=1 bestOrder()=0"
                + " canBeCut(0)=" + (cells <= 12 ? 1 : 0)
                + " setCellLimit(" + cells + ")=12 canBeCut(0)=1 cuttableCount()=1"
                + " splitPieces(0)=1 splitLead(0)=0 applySplit(0)=-2");
        if (cells > 1) {
            int lead = Math.min(rows == 1 ? columns : rows, columns == 1 ? rows : columns);
            lead = rows == 1 || columns == 1 ? 1 : lead;
            run.calls("setCellLimit(" + (cells - 1) + ")=" + cells + " canBeCut(0)=0"
                    + " cuttableCount()=0 splitPieces(0)=2 splitLead(0)=" + lead
                    + " applySplit(0)=2 leadLength()=" + lead);
            boolean lies = columns == 1 || (rows > 1 && columns <= rows);
            run.calls("paneSize(0)=" + (lies ? columns : rows));
        }
    }

    private static void mostPanes(int rows, int columns) {
        int cells = rows * columns;
        int pairs = rows * (columns - 1) + (rows - 1) * columns;
        Run run = plain(rows, columns).calls("setCellLimit(1)=12 splitPieces(0)=" + cells
                + " splitLead(0)=" + pairs + " applySplit(0)=" + (cells == 1 ? -2 : cells)
                + " paneCount()=" + cells + " leadLength()=" + pairs + " equalNeighbours()=" + pairs
                + " cuttableCount()=" + cells + " largestClique()=" + (cells == 1 ? 1 : 2)
                + " colourCount(0)=" + (cells == 1 ? 1 : 2));
        for (int pane = 0; pane < cells; pane++) {
            int row = pane / columns;
            int column = pane % columns;
            int near = (row > 0 ? 1 : 0) + (row < rows - 1 ? 1 : 0) + (column > 0 ? 1 : 0)
                    + (column < columns - 1 ? 1 : 0);
            run.calls("paneAt(" + row + "," + column + ")=" + pane + " neighbourCount(" + pane
                    + ")=" + near + " suggestedColour(0," + pane + ")=" + (row + column) % 2);
        }
        run.calls("paneSize(" + cells + ")=-1 suggestedColour(0," + cells + ")=-1");
    }
}
