/**
 * A planner for stained glass windows: it divides a drawing of coloured cells into panes, checks
 * and splits the panes, and colours them so that neighbours differ.
 */
public final class GlassPlanner {
    public static final int INVALID_ARGUMENT = -1;
    public static final int INVALID_STATE = -2;
    public static final int LIMIT_REACHED = -3;

    private static final int MOST_CODE = 255;
    private static final int MOST_COLOUR = 5;
    private static final int MOST_CELL_LIMIT = 49;
    private static final int MOST_CORNER_LIMIT = 8;
    private static final int TEXT_ERROR = -10;

    private final TextBuffer text;
    private final Drawing drawing;
    private final History history;
    private final Panes panes;
    private final Splitter splitter;
    private final Colouring colouring;

    public GlassPlanner() {
        text = new TextBuffer();
        drawing = new Drawing();
        history = new History();
        panes = new Panes(drawing);
        splitter = new Splitter(panes);
        colouring = new Colouring(panes);
        panes.find();
    }

    // ---- the drawing

    public int appendCharacter(int character) {
        if (character < 0 || character > MOST_CODE) {
            return INVALID_ARGUMENT;
        }
        return text.append(character) ? text.length : LIMIT_REACHED;
    }

    public int clearText() {
        int length = text.length;
        text.length = 0;
        return length;
    }

    public int loadDrawing() {
        int offset = text.errorOffset();
        if (offset != TextBuffer.NO_ERROR) {
            return TEXT_ERROR - offset;
        }
        history.remember(drawing);
        text.copyTo(drawing);
        text.length = 0;
        drawing.cutsRight = 0;
        drawing.cutsBelow = 0;
        refresh();
        return panes.count;
    }

    public int setColour(int row, int column, int colour) {
        if (!drawing.hasCell(row, column) || colour < 0 || colour > MOST_COLOUR) {
            return INVALID_ARGUMENT;
        }
        int cell = Cells.number(row, column);
        int previous = drawing.colours[cell];
        if (previous == colour) {
            return INVALID_STATE;
        }
        history.remember(drawing);
        drawing.colours[cell] = colour;
        refresh();
        return previous;
    }

    public int rows() {
        return drawing.rows;
    }

    public int columns() {
        return drawing.columns;
    }

    public int colourAt(int row, int column) {
        if (!drawing.hasCell(row, column)) {
            return INVALID_ARGUMENT;
        }
        return drawing.colours[Cells.number(row, column)];
    }

    // ---- cuts

    public int addCut(int row, int column, int side) {
        if (!drawing.hasPair(row, column, side)) {
            return INVALID_ARGUMENT;
        }
        if (drawing.hasCut(row, column, side)) {
            return INVALID_STATE;
        }
        return flipCut(row, column, side);
    }

    public int removeCut(int row, int column, int side) {
        if (!drawing.hasPair(row, column, side)) {
            return INVALID_ARGUMENT;
        }
        if (!drawing.hasCut(row, column, side)) {
            return INVALID_STATE;
        }
        return flipCut(row, column, side);
    }

    public int looseCuts() {
        return Long.bitCount(panes.looseRight()) + Long.bitCount(panes.looseBelow());
    }

    public int removeLooseCuts() {
        long right = panes.looseRight();
        long below = panes.looseBelow();
        if (right == 0 && below == 0) {
            return INVALID_STATE;
        }
        history.remember(drawing);
        drawing.cutsRight &= ~right;
        drawing.cutsBelow &= ~below;
        refresh();
        return Long.bitCount(right) + Long.bitCount(below);
    }

    // ---- panes

    public int paneCount() {
        return panes.count;
    }

    public int paneAt(int row, int column) {
        if (!drawing.hasCell(row, column)) {
            return INVALID_ARGUMENT;
        }
        return panes.numberOf(Cells.only(row, column));
    }

    public int paneSize(int pane) {
        if (!panes.hasPane(pane)) {
            return INVALID_ARGUMENT;
        }
        return Long.bitCount(panes.cells[pane]);
    }

    public int innerCorners(int pane) {
        if (!panes.hasPane(pane)) {
            return INVALID_ARGUMENT;
        }
        return Cells.countInnerCorners(panes.cells[pane]);
    }

    public int holes(int pane) {
        if (!panes.hasPane(pane)) {
            return INVALID_ARGUMENT;
        }
        return Cells.countHoles(panes.cells[pane], panes.all);
    }

    public int canBeCut(int pane) {
        if (!panes.hasPane(pane)) {
            return INVALID_ARGUMENT;
        }
        return panes.isEasy(panes.cells[pane]) ? 1 : 0;
    }

    public int cuttableCount() {
        int cuttable = 0;
        for (int pane = 0; pane < panes.count; pane++) {
            if (panes.isEasy(panes.cells[pane])) {
                cuttable++;
            }
        }
        return cuttable;
    }

    public int neighbourCount(int pane) {
        if (!panes.hasPane(pane)) {
            return INVALID_ARGUMENT;
        }
        return Long.bitCount(panes.neighbours[pane]);
    }

    public int leadLength() {
        return panes.measureLead();
    }

    public int setCellLimit(int limit) {
        if (limit < 1 || limit > MOST_CELL_LIMIT) {
            return INVALID_ARGUMENT;
        }
        int previous = drawing.cellLimit;
        history.remember(drawing);
        drawing.cellLimit = limit;
        refresh();
        return previous;
    }

    public int setCornerLimit(int limit) {
        if (limit < 0 || limit > MOST_CORNER_LIMIT) {
            return INVALID_ARGUMENT;
        }
        int previous = drawing.cornerLimit;
        history.remember(drawing);
        drawing.cornerLimit = limit;
        refresh();
        return previous;
    }

    // ---- splits

    public int splitPieces(int pane) {
        if (!panes.hasPane(pane)) {
            return INVALID_ARGUMENT;
        }
        splitter.plan(pane);
        return splitter.pieces();
    }

    public int splitLead(int pane) {
        if (!panes.hasPane(pane)) {
            return INVALID_ARGUMENT;
        }
        splitter.plan(pane);
        return splitter.lead();
    }

    public int applySplit(int pane) {
        if (!panes.hasPane(pane)) {
            return INVALID_ARGUMENT;
        }
        if (panes.isEasy(panes.cells[pane])) {
            return INVALID_STATE;
        }
        splitter.plan(pane);
        history.remember(drawing);
        splitter.cut(drawing);
        refresh();
        return panes.count;
    }

    // ---- colours and undo

    public int equalNeighbours() {
        return panes.countEqualNeighbours();
    }

    public int colourCount(int order) {
        if (!colouring.hasOrder(order)) {
            return INVALID_ARGUMENT;
        }
        return colouring.paint(order);
    }

    public int suggestedColour(int order, int pane) {
        if (!colouring.hasOrder(order) || !panes.hasPane(pane)) {
            return INVALID_ARGUMENT;
        }
        colouring.paint(order);
        return colouring.given[pane];
    }

    public int bestOrder() {
        int best = 0;
        int fewest = colouring.paint(0);
        for (int order = 1; order < Colouring.ORDERS; order++) {
            int colours = colouring.paint(order);
            if (colours < fewest) {
                fewest = colours;
                best = order;
            }
        }
        return best;
    }

    public int largestClique() {
        return panes.measureClique();
    }

    public int undo() {
        if (history.count == 0) {
            return INVALID_STATE;
        }
        history.restore(drawing);
        refresh();
        return history.count;
    }

    // ---- what the methods share

    private int flipCut(int row, int column, int side) {
        history.remember(drawing);
        drawing.flip(row, column, side);
        refresh();
        return drawing.countCuts();
    }

    /** Every edit ends here, so that the panes and the plan are never those of an older drawing. */
    private void refresh() {
        panes.find();
        splitter.forget();
    }

    /**
     * Sets of cells as bits of a long: cell (r, c) is bit 8 r + c. Column 7 is in no drawing, so a
     * set that is moved by one column never reaches into another row.
     */
    private static final class Cells {
        static final int LINES = 7;
        static final int MOST = 49;
        static final int STRIDE = 8;
        static final int NUMBERS = LINES * STRIDE;
        private static final long FIRST_ROW = 0x7FL;
        private static final long FIRST_COLUMN = 0x01010101010101L;

        static int number(int row, int column) {
            return row * STRIDE + column;
        }

        static long only(int row, int column) {
            return 1L << number(row, column);
        }

        static long inRow(int row) {
            return FIRST_ROW << (row * STRIDE);
        }

        static long inColumn(int column) {
            return FIRST_COLUMN << column;
        }

        static long block(int top, int bottom, int left, int right) {
            long line = ((1L << (right - left + 1)) - 1) << left;
            long set = 0;
            for (int row = top; row <= bottom; row++) {
                set |= line << (row * STRIDE);
            }
            return set;
        }

        static long first(long set) {
            return set & -set;
        }

        /** The number of the first bit of a set that is not empty. */
        static int numberOfFirst(long set) {
            return Long.bitCount(first(set) - 1);
        }

        /** The pairs of cells of the set that lie side by side, by their left cells. */
        static long pairsRight(long set) {
            return set & (set >>> 1);
        }

        /** The pairs of cells of the set that lie one below the other, by their upper cells. */
        static long pairsBelow(long set) {
            return set & (set >>> STRIDE);
        }

        static int countPairs(long set) {
            return Long.bitCount(pairsRight(set)) + Long.bitCount(pairsBelow(set));
        }

        /** The places that have a side in common with a cell of the set, inside it or outside. */
        static long beside(long set) {
            return (set << 1) | (set >>> 1) | (set << STRIDE) | (set >>> STRIDE);
        }

        static int countInnerCorners(long set) {
            long right = set >>> 1;
            long below = set >>> STRIDE;
            long across = set >>> (STRIDE + 1);
            long threeAbove = set & right & (below ^ across);
            long threeBelow = (set ^ right) & below & across;
            return Long.bitCount(threeAbove | threeBelow);
        }

        static int countHoles(long set, long all) {
            long others = all & ~set;
            long inside = all & (all << 1) & (all >>> 1) & (all << STRIDE) & (all >>> STRIDE);
            long left = others & ~connected(others & ~inside, others);
            int holes = 0;
            for (int i = 0; i < MOST && left != 0; i++) {
                left &= ~connected(first(left), left);
                holes++;
            }
            return holes;
        }

        /** What can be reached from the start within the set over common sides or corners. */
        private static long connected(long start, long set) {
            long reached = start;
            for (int i = 0; i < MOST; i++) {
                long wide = reached | (reached << 1) | (reached >>> 1);
                long next = (wide | (wide << STRIDE) | (wide >>> STRIDE)) & set;
                if (next == reached) {
                    break;
                }
                reached = next;
            }
            return reached;
        }
    }

    /** What an edit changes and undo restores: the cells, the cuts and the limits. */
    private static final class Drawing {
        int rows = 3;
        int columns = 3;
        final int[] colours = new int[Cells.NUMBERS];
        long cutsRight = 0;
        long cutsBelow = 0;
        int cellLimit = 12;
        int cornerLimit = 1;

        void copyFrom(Drawing other) {
            rows = other.rows;
            columns = other.columns;
            System.arraycopy(other.colours, 0, colours, 0, Cells.NUMBERS);
            cutsRight = other.cutsRight;
            cutsBelow = other.cutsBelow;
            cellLimit = other.cellLimit;
            cornerLimit = other.cornerLimit;
        }

        boolean hasCell(int row, int column) {
            return row >= 0 && row < rows && column >= 0 && column < columns;
        }

        /** Whether the cell is there and so is the one to its right (side 0) or below it (1). */
        boolean hasPair(int row, int column, int side) {
            if (!hasCell(row, column)) {
                return false;
            }
            if (side == 0) {
                return column + 1 < columns;
            }
            return side == 1 && row + 1 < rows;
        }

        boolean hasCut(int row, int column, int side) {
            long cuts = side == 0 ? cutsRight : cutsBelow;
            return (cuts & Cells.only(row, column)) != 0;
        }

        void flip(int row, int column, int side) {
            if (side == 0) {
                cutsRight ^= Cells.only(row, column);
            } else {
                cutsBelow ^= Cells.only(row, column);
            }
        }

        int countCuts() {
            return Long.bitCount(cutsRight) + Long.bitCount(cutsBelow);
        }

        /** The joined neighbours, by their left cells (side 0) or their upper ones (side 1). */
        long joined(int side) {
            int step = side == 0 ? 1 : Cells.STRIDE;
            long alike = 0;
            for (int row = 0; row < rows; row++) {
                for (int column = 0; column < columns; column++) {
                    int cell = Cells.number(row, column);
                    if (hasPair(row, column, side) && colours[cell] == colours[cell + step]) {
                        alike |= 1L << cell;
                    }
                }
            }
            return alike & ~(side == 0 ? cutsRight : cutsBelow);
        }
    }

    /** The drawings before the latest edits, in a ring: the oldest one makes room. */
    private static final class History {
        private static final int MOST = 8;
        private final Drawing[] kept = new Drawing[MOST];
        private int next = 0;
        int count = 0;

        History() {
            for (int i = 0; i < MOST; i++) {
                kept[i] = new Drawing();
            }
        }

        void remember(Drawing drawing) {
            kept[next].copyFrom(drawing);
            next = (next + 1) % MOST;
            count = Math.min(count + 1, MOST);
        }

        void restore(Drawing drawing) {
            next = (next + MOST - 1) % MOST;
            drawing.copyFrom(kept[next]);
            count--;
        }
    }

    /** The text that a drawing is read from. */
    private static final class TextBuffer {
        static final int NO_ERROR = -1;
        private static final int MOST = 80;
        private static final int SPACE = 32;
        private static final int SEMICOLON = 59;
        private static final int FIRST_DIGIT = 48;
        private static final int LAST_DIGIT = FIRST_DIGIT + MOST_COLOUR;

        private final int[] characters = new int[MOST];
        int length = 0;

        boolean append(int character) {
            if (length >= MOST) {
                return false;
            }
            characters[length] = character;
            length++;
            return true;
        }

        int errorOffset() {
            int rows = 0;
            int width = 0;
            int digits = 0;
            for (int i = 0; i < length; i++) {
                int character = characters[i];
                if (character == SEMICOLON) {
                    if (digits == 0 || (rows > 0 && digits != width)) {
                        return i;
                    }
                    width = digits;
                    digits = 0;
                    rows++;
                } else if (character != SPACE) {
                    int room = rows == 0 ? Cells.LINES : width;
                    if (!isDigit(character) || rows == Cells.LINES || digits == room) {
                        return i;
                    }
                    digits++;
                }
            }
            return rows == 0 || digits > 0 ? length : NO_ERROR;
        }

        /** Puts the cells into the drawing; only for a text without an error. */
        void copyTo(Drawing drawing) {
            int row = 0;
            int column = 0;
            for (int i = 0; i < length; i++) {
                int character = characters[i];
                if (character == SEMICOLON) {
                    drawing.columns = column;
                    column = 0;
                    row++;
                } else if (isDigit(character) && row < Cells.LINES && column < Cells.LINES) {
                    drawing.colours[Cells.number(row, column)] = character - FIRST_DIGIT;
                    column++;
                }
            }
            drawing.rows = row;
        }

        private static boolean isDigit(int character) {
            return character >= FIRST_DIGIT && character <= LAST_DIGIT;
        }
    }

    /** The panes of the drawing as it stood when find was last called. */
    private static final class Panes {
        static final int NOT_EASY = -1;

        /** Panes are connected, so their neighbourhood is a planar graph: no five all touch. */
        private static final int MOST_IN_CLIQUE = 4;

        private final Drawing drawing;
        long all = 0;
        long joinedRight = 0;
        long joinedBelow = 0;
        int count = 0;
        final long[] cells = new long[Cells.MOST];

        /** For each pane the set of its neighbours, pane p as bit p. */
        final long[] neighbours = new long[Cells.MOST];

        Panes(Drawing drawing) {
            this.drawing = drawing;
        }

        void find() {
            all = Cells.block(0, drawing.rows - 1, 0, drawing.columns - 1);
            joinedRight = drawing.joined(0);
            joinedBelow = drawing.joined(1);
            count = 0;
            long left = all;
            for (int i = 0; i < Cells.MOST && left != 0; i++) {
                cells[i] = fragment(Cells.first(left), all);
                left &= ~cells[i];
                count++;
            }
            for (int pane = 0; pane < count; pane++) {
                neighbours[pane] = touching(pane);
            }
        }

        /** What can be reached from the start within the part over joined neighbours. */
        private long fragment(long start, long part) {
            long reached = start;
            for (int i = 0; i < Cells.MOST; i++) {
                long next = reached
                        | ((reached & joinedRight) << 1)
                        | ((reached >>> 1) & joinedRight)
                        | ((reached & joinedBelow) << Cells.STRIDE)
                        | ((reached >>> Cells.STRIDE) & joinedBelow);
                next &= part;
                if (next == reached) {
                    break;
                }
                reached = next;
            }
            return reached;
        }

        private long touching(int pane) {
            long around = Cells.beside(cells[pane]);
            long set = 0;
            for (int other = 0; other < count; other++) {
                if (other != pane && (cells[other] & around) != 0) {
                    set |= 1L << other;
                }
            }
            return set;
        }

        boolean hasPane(int pane) {
            return pane >= 0 && pane < count;
        }

        long everyPane() {
            return (1L << count) - 1;
        }

        int numberOf(long cell) {
            int number = 0;
            for (int pane = 0; pane < count; pane++) {
                if ((cells[pane] & cell) != 0) {
                    number = pane;
                }
            }
            return number;
        }

        boolean isEasy(long set) {
            return Long.bitCount(set) <= drawing.cellLimit
                    && Cells.countInnerCorners(set) <= drawing.cornerLimit
                    && Cells.countHoles(set, all) == 0;
        }

        /** The number of fragments of the part, or NOT_EASY if one of them is not easy. */
        int countEasyFragments(long part) {
            int fragments = 0;
            long left = part;
            for (int i = 0; i < Cells.MOST && left != 0; i++) {
                long fragment = fragment(Cells.first(left), part);
                if (!isEasy(fragment)) {
                    return NOT_EASY;
                }
                left &= ~fragment;
                fragments++;
            }
            return fragments;
        }

        long looseRight() {
            long within = 0;
            for (int pane = 0; pane < count; pane++) {
                within |= Cells.pairsRight(cells[pane]);
            }
            return drawing.cutsRight & within;
        }

        long looseBelow() {
            long within = 0;
            for (int pane = 0; pane < count; pane++) {
                within |= Cells.pairsBelow(cells[pane]);
            }
            return drawing.cutsBelow & within;
        }

        int measureLead() {
            int length = Cells.countPairs(all);
            for (int pane = 0; pane < count; pane++) {
                length -= Cells.countPairs(cells[pane]);
            }
            return length;
        }

        int countEqualNeighbours() {
            int pairs = 0;
            for (int pane = 0; pane < count; pane++) {
                for (int other = 0; other < pane; other++) {
                    boolean near = (neighbours[pane] & (1L << other)) != 0;
                    if (near && colourOf(pane) == colourOf(other)) {
                        pairs++;
                    }
                }
            }
            return pairs;
        }

        /** The colour of a pane's cells: they all have that of its first one. */
        private int colourOf(int pane) {
            int cell = Cells.numberOfFirst(cells[pane]);
            return cell < Cells.NUMBERS ? drawing.colours[cell] : 0;
        }

        int measureClique() {
            return cliqueAmong(everyPane(), 0);
        }

        /** The size of the largest clique of these panes; depth panes are chosen already. */
        private int cliqueAmong(long candidates, int depth) {
            if (depth >= MOST_IN_CLIQUE) {
                return 0;
            }
            int largest = 0;
            for (int pane = 0; pane < count; pane++) {
                if ((candidates & (1L << pane)) != 0) {
                    long smaller = (1L << pane) - 1;
                    long rest = candidates & neighbours[pane] & smaller;
                    largest = Math.max(largest, 1 + cliqueAmong(rest, depth + 1));
                }
            }
            return largest;
        }
    }

    /** The split plan of one pane, with the plans of all its parts. */
    private static final class Splitter {
        /** No pane has as many joined neighbours as this, so fewer pieces always weigh less. */
        private static final int PIECE_WEIGHT = 128;
        private static final int TOO_HEAVY = 1 << 20;
        private static final int SPANS = Cells.LINES * (Cells.LINES + 1) / 2;
        private static final int NO_PANE = -1;

        /** A line below row k is k, a line to the right of column k is FIRST_UPRIGHT + k. */
        private static final int NO_LINE = -1;
        private static final int FIRST_UPRIGHT = Cells.LINES;

        /** Each line makes its rectangle lower or narrower, so no more can be nested. */
        private static final int MOST_NESTED = 2 * Cells.LINES;

        private final Panes panes;
        private int planned = NO_PANE;
        private long cells = 0;
        private int top = 0;
        private int bottom = 0;
        private int left = 0;
        private int right = 0;
        private final int[] weights = new int[SPANS * SPANS];
        private final int[] lines = new int[SPANS * SPANS];

        Splitter(Panes panes) {
            this.panes = panes;
        }

        void forget() {
            planned = NO_PANE;
        }

        int pieces() {
            return weights[place(top, bottom, left, right)] / PIECE_WEIGHT;
        }

        int lead() {
            return weights[place(top, bottom, left, right)] % PIECE_WEIGHT;
        }

        /** Plans the parts in such an order that those of a line are planned before the line. */
        void plan(int pane) {
            if (pane == planned) {
                return;
            }
            planned = pane;
            cells = panes.cells[pane];
            frame();
            for (int low = top; low <= bottom; low++) {
                for (int high = low; high >= top; high--) {
                    for (int east = left; east <= right; east++) {
                        for (int west = east; west >= left; west--) {
                            planPart(high, low, west, east);
                        }
                    }
                }
            }
        }

        /** Finds the smallest rectangle that contains the pane. */
        private void frame() {
            top = Cells.LINES - 1;
            bottom = 0;
            left = Cells.LINES - 1;
            right = 0;
            for (int line = 0; line < Cells.LINES; line++) {
                if ((cells & Cells.inRow(line)) != 0) {
                    top = Math.min(top, line);
                    bottom = line;
                }
                if ((cells & Cells.inColumn(line)) != 0) {
                    left = Math.min(left, line);
                    right = line;
                }
            }
        }

        private void planPart(int high, int low, int west, int east) {
            int place = place(high, low, west, east);
            long part = cells & Cells.block(high, low, west, east);
            int fragments = panes.countEasyFragments(part);
            lines[place] = NO_LINE;
            if (fragments != Panes.NOT_EASY) {
                weights[place] = fragments * PIECE_WEIGHT;
                return;
            }
            weights[place] = TOO_HEAVY;
            for (int k = high; k < low; k++) {
                int weight = weights[place(high, k, west, east)]
                        + weights[place(k + 1, low, west, east)]
                        + Long.bitCount(crossedBelow(part, k));
                offer(place, weight, k);
            }
            for (int k = west; k < east; k++) {
                int weight = weights[place(high, low, west, k)]
                        + weights[place(high, low, k + 1, east)]
                        + Long.bitCount(crossedRight(part, k));
                offer(place, weight, FIRST_UPRIGHT + k);
            }
        }

        private void offer(int place, int weight, int line) {
            if (weight < weights[place]) {
                weights[place] = weight;
                lines[place] = line;
            }
        }

        /** The joined neighbours that a line below row k separates, by their upper cells. */
        private long crossedBelow(long part, int k) {
            return part & panes.joinedBelow & Cells.inRow(k);
        }

        /** The joined neighbours that a line right of column k separates, by their left cells. */
        private long crossedRight(long part, int k) {
            return part & panes.joinedRight & Cells.inColumn(k);
        }

        void cut(Drawing drawing) {
            cutPart(drawing, top, bottom, left, right, 0);
        }

        private void cutPart(Drawing drawing, int high, int low, int west, int east, int depth) {
            int line = lines[place(high, low, west, east)];
            if (line == NO_LINE || depth > MOST_NESTED) {
                return;
            }
            long part = cells & Cells.block(high, low, west, east);
            if (line < FIRST_UPRIGHT) {
                drawing.cutsBelow |= crossedBelow(part, line);
                cutPart(drawing, high, line, west, east, depth + 1);
                cutPart(drawing, line + 1, low, west, east, depth + 1);
            } else {
                int k = line - FIRST_UPRIGHT;
                drawing.cutsRight |= crossedRight(part, k);
                cutPart(drawing, high, low, west, k, depth + 1);
                cutPart(drawing, high, low, k + 1, east, depth + 1);
            }
        }

        /** Where the plan of the part in this rectangle is kept. */
        private static int place(int high, int low, int west, int east) {
            return span(high, low) * SPANS + span(west, east);
        }

        private static int span(int from, int to) {
            return to * (to + 1) / 2 + from;
        }
    }

    /** The colouring of the panes by one of the orders. */
    private static final class Colouring {
        static final int ORDERS = 3;
        private static final int BY_NUMBER = 0;
        private static final int BY_NEIGHBOURS = 1;
        private static final int NOT_YET = -1;

        private final Panes panes;
        private final int[] sequence = new int[Cells.MOST];

        /** What each pane got in the latest colouring. */
        final int[] given = new int[Cells.MOST];

        Colouring(Panes panes) {
            this.panes = panes;
        }

        boolean hasOrder(int order) {
            return order >= 0 && order < ORDERS;
        }

        /** Makes the colouring by the order and answers its colour count. */
        int paint(int order) {
            if (order == BY_NUMBER) {
                arrangeByNumber();
            } else if (order == BY_NEIGHBOURS) {
                arrangeByNeighbours();
            } else {
                arrangeByRemoval();
            }
            for (int pane = 0; pane < panes.count; pane++) {
                given[pane] = NOT_YET;
            }
            long used = 0;
            for (int i = 0; i < panes.count; i++) {
                int pane = sequence[i];
                given[pane] = smallestFree(pane);
                used |= 1L << given[pane];
            }
            return Long.bitCount(used);
        }

        private int smallestFree(int pane) {
            long taken = 0;
            for (int other = 0; other < panes.count; other++) {
                boolean near = (panes.neighbours[pane] & (1L << other)) != 0;
                if (near && given[other] != NOT_YET) {
                    taken |= 1L << given[other];
                }
            }
            return Cells.numberOfFirst(~taken);
        }

        private void arrangeByNumber() {
            for (int pane = 0; pane < panes.count; pane++) {
                sequence[pane] = pane;
            }
        }

        private void arrangeByNeighbours() {
            long left = panes.everyPane();
            for (int i = 0; i < panes.count; i++) {
                sequence[i] = mostNeighbours(left);
                left &= ~(1L << sequence[i]);
            }
        }

        private void arrangeByRemoval() {
            long left = panes.everyPane();
            for (int i = panes.count - 1; i >= 0; i--) {
                sequence[i] = fewestNeighboursAmong(left);
                left &= ~(1L << sequence[i]);
            }
        }

        private int mostNeighbours(long left) {
            int chosen = 0;
            int most = -1;
            for (int pane = 0; pane < panes.count; pane++) {
                int near = Long.bitCount(panes.neighbours[pane]);
                if ((left & (1L << pane)) != 0 && near > most) {
                    chosen = pane;
                    most = near;
                }
            }
            return chosen;
        }

        private int fewestNeighboursAmong(long left) {
            int chosen = 0;
            int fewest = Cells.MOST;
            for (int pane = 0; pane < panes.count; pane++) {
                int near = Long.bitCount(panes.neighbours[pane] & left);
                if ((left & (1L << pane)) != 0 && near < fewest) {
                    chosen = pane;
                    fewest = near;
                }
            }
            return chosen;
        }
    }
}
