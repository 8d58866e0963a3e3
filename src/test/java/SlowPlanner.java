import java.util.ArrayDeque;
import java.util.ArrayList;
import java.util.Deque;
import java.util.HashMap;
import java.util.HashSet;
import java.util.List;
import java.util.Map;
import java.util.Set;
import java.util.TreeSet;

/**
 * The document's words once more, without any thought of speed: cells are numbers 10 r + c in
 * sets, and everything is worked out anew for each question.
 */
final class SlowPlanner {
    private record State(int rows, int columns, Map<Integer, Integer> colours, Set<String> cuts,
            int cellLimit, int cornerLimit) { }

    private record Line(boolean horizontal, int k) { }

    private record Plan(int pieces, int lead, Line line) {
        boolean isBetterThan(Plan other) {
            return other == null || pieces < other.pieces
                    || (pieces == other.pieces && lead < other.lead);
        }
    }

    private final StringBuilder text = new StringBuilder();
    private final Deque<State> history = new ArrayDeque<>();
    private State now = blank(3, 3, 12, 1);

    private static State blank(int rows, int columns, int cellLimit, int cornerLimit) {
        Map<Integer, Integer> colours = new HashMap<>();
        for (int r = 0; r < rows; r++) {
            for (int c = 0; c < columns; c++) {
                colours.put(10 * r + c, 0);
            }
        }
        return new State(rows, columns, colours, new HashSet<>(), cellLimit, cornerLimit);
    }

    private State copy() {
        return new State(now.rows, now.columns, new HashMap<>(now.colours),
                new HashSet<>(now.cuts), now.cellLimit, now.cornerLimit);
    }

    private void edit(State next) {
        history.addLast(now);
        if (history.size() > 8) {
            history.removeFirst();
        }
        now = next;
    }

    // ---- cells and panes

    private boolean exists(int r, int c) {
        return r >= 0 && r < now.rows && c >= 0 && c < now.columns;
    }

    private static String cutBetween(int a, int b) {
        int first = Math.min(a, b);
        return first + (Math.abs(a - b) == 1 ? " right" : " down");
    }

    private List<Integer> around(int cell, boolean corners) {
        List<Integer> list = new ArrayList<>();
        for (int dr = -1; dr <= 1; dr++) {
            for (int dc = -1; dc <= 1; dc++) {
                int steps = Math.abs(dr) + Math.abs(dc);
                boolean wanted = steps == 1 || (steps == 2 && corners);
                if (wanted && exists(cell / 10 + dr, cell % 10 + dc)) {
                    list.add(cell + 10 * dr + dc);
                }
            }
        }
        return list;
    }

    private boolean joined(int a, int b) {
        return now.colours.get(a).equals(now.colours.get(b))
                && !now.cuts.contains(cutBetween(a, b));
    }

    /** The largest connected subsets, by their first cells. */
    private List<Set<Integer>> components(Set<Integer> cells, boolean corners, boolean byJoints) {
        List<Set<Integer>> list = new ArrayList<>();
        Set<Integer> left = new TreeSet<>(cells);
        while (!left.isEmpty()) {
            Set<Integer> component = new TreeSet<>();
            Deque<Integer> open = new ArrayDeque<>();
            open.add(left.iterator().next());
            while (!open.isEmpty()) {
                int cell = open.removeFirst();
                if (!left.remove(cell)) {
                    continue;
                }
                component.add(cell);
                for (int other : around(cell, corners)) {
                    if (left.contains(other) && (!byJoints || joined(cell, other))) {
                        open.add(other);
                    }
                }
            }
            list.add(component);
        }
        return list;
    }

    private Set<Integer> all() {
        return new TreeSet<>(now.colours.keySet());
    }

    private List<Set<Integer>> panes() {
        return components(all(), false, true);
    }

    private int corners(Set<Integer> set) {
        int count = 0;
        for (int r = 0; r + 1 < now.rows; r++) {
            for (int c = 0; c + 1 < now.columns; c++) {
                int inside = 0;
                for (int cell : List.of(10 * r + c, 10 * r + c + 1, 10 * r + c + 10,
                        10 * r + c + 11)) {
                    inside += set.contains(cell) ? 1 : 0;
                }
                count += inside == 3 ? 1 : 0;
            }
        }
        return count;
    }

    private boolean atEdge(int cell) {
        int r = cell / 10;
        int c = cell % 10;
        return r == 0 || c == 0 || r == now.rows - 1 || c == now.columns - 1;
    }

    private int holeCount(Set<Integer> set) {
        Set<Integer> others = all();
        others.removeAll(set);
        int count = 0;
        for (Set<Integer> component : components(others, true, false)) {
            count += component.stream().noneMatch(this::atEdge) ? 1 : 0;
        }
        return count;
    }

    private boolean easy(Set<Integer> set) {
        return set.size() <= now.cellLimit && corners(set) <= now.cornerLimit
                && holeCount(set) == 0;
    }

    // ---- plans

    private static Set<Integer> within(Set<Integer> pane, int r1, int r2, int c1, int c2) {
        Set<Integer> part = new TreeSet<>();
        for (int cell : pane) {
            int r = cell / 10;
            int c = cell % 10;
            if (r >= r1 && r <= r2 && c >= c1 && c <= c2) {
                part.add(cell);
            }
        }
        return part;
    }

    /** The upper or left cells of the joined neighbours in the part that the line separates. */
    private Set<Integer> crossed(Set<Integer> part, Line line) {
        Set<Integer> set = new TreeSet<>();
        int step = line.horizontal ? 10 : 1;
        for (int cell : part) {
            int place = line.horizontal ? cell / 10 : cell % 10;
            if (place == line.k && part.contains(cell + step) && joined(cell, cell + step)) {
                set.add(cell);
            }
        }
        return set;
    }

    private Plan plan(Set<Integer> pane, int[] box, Map<String, Plan> known) {
        String key = box[0] + "," + box[1] + "," + box[2] + "," + box[3];
        if (known.containsKey(key)) {
            return known.get(key);
        }
        Set<Integer> part = within(pane, box[0], box[1], box[2], box[3]);
        List<Set<Integer>> fragments = components(part, false, true);
        Plan best = null;
        if (fragments.stream().allMatch(this::easy)) {
            best = new Plan(fragments.size(), 0, null);
        } else {
            for (Line line : lines(box)) {
                Plan a = plan(pane, firstBox(box, line), known);
                Plan b = plan(pane, secondBox(box, line), known);
                int lead = a.lead + b.lead + crossed(part, line).size();
                Plan candidate = new Plan(a.pieces + b.pieces, lead, line);
                best = candidate.isBetterThan(best) ? candidate : best;
            }
        }
        known.put(key, best);
        return best;
    }

    private static List<Line> lines(int[] box) {
        List<Line> list = new ArrayList<>();
        for (int k = box[0]; k < box[1]; k++) {
            list.add(new Line(true, k));
        }
        for (int k = box[2]; k < box[3]; k++) {
            list.add(new Line(false, k));
        }
        return list;
    }

    private static int[] firstBox(int[] box, Line line) {
        return line.horizontal ? new int[] {box[0], line.k, box[2], box[3]}
                : new int[] {box[0], box[1], box[2], line.k};
    }

    private static int[] secondBox(int[] box, Line line) {
        return line.horizontal ? new int[] {line.k + 1, box[1], box[2], box[3]}
                : new int[] {box[0], box[1], line.k + 1, box[3]};
    }

    private static int[] boxOf(Set<Integer> pane) {
        int[] box = {9, 0, 9, 0};
        for (int cell : pane) {
            box[0] = Math.min(box[0], cell / 10);
            box[1] = Math.max(box[1], cell / 10);
            box[2] = Math.min(box[2], cell % 10);
            box[3] = Math.max(box[3], cell % 10);
        }
        return box;
    }

    private void collect(Set<Integer> pane, int[] box, Map<String, Plan> known, Set<String> cuts) {
        Line line = plan(pane, box, known).line;
        if (line == null) {
            return;
        }
        for (int cell : crossed(within(pane, box[0], box[1], box[2], box[3]), line)) {
            cuts.add(cutBetween(cell, cell + (line.horizontal ? 10 : 1)));
        }
        collect(pane, firstBox(box, line), known, cuts);
        collect(pane, secondBox(box, line), known, cuts);
    }

    // ---- neighbours and colourings

    private boolean near(Set<Integer> a, Set<Integer> b) {
        return a != b && a.stream().anyMatch(cell -> around(cell, false).stream()
                .anyMatch(b::contains));
    }

    private List<Set<Integer>> graph() {
        List<Set<Integer>> panes = panes();
        List<Set<Integer>> graph = new ArrayList<>();
        for (Set<Integer> pane : panes) {
            Set<Integer> neighbours = new TreeSet<>();
            for (int other = 0; other < panes.size(); other++) {
                if (near(pane, panes.get(other))) {
                    neighbours.add(other);
                }
            }
            graph.add(neighbours);
        }
        return graph;
    }

    private List<Integer> sequence(int order, List<Set<Integer>> graph) {
        List<Integer> list = new ArrayList<>();
        for (int pane = 0; pane < graph.size(); pane++) {
            list.add(pane);
        }
        if (order == 1) {
            list.sort((a, b) -> graph.get(a).size() != graph.get(b).size()
                    ? graph.get(b).size() - graph.get(a).size() : a - b);
        }
        if (order == 2) {
            List<Integer> left = list;
            list = new ArrayList<>();
            while (!left.isEmpty()) {
                Integer chosen = null;
                long fewest = 0;
                for (Integer pane : left) {
                    long degree = graph.get(pane).stream().filter(left::contains).count();
                    if (chosen == null || degree < fewest) {
                        chosen = pane;
                        fewest = degree;
                    }
                }
                left.remove(chosen);
                list.add(0, chosen);
            }
        }
        return list;
    }

    private Map<Integer, Integer> colouring(int order) {
        List<Set<Integer>> graph = graph();
        Map<Integer, Integer> numbers = new HashMap<>();
        for (int pane : sequence(order, graph)) {
            int number = 0;
            boolean taken = true;
            while (taken) {
                taken = false;
                for (int other : graph.get(pane)) {
                    taken |= numbers.containsKey(other) && numbers.get(other) == number;
                }
                number += taken ? 1 : 0;
            }
            numbers.put(pane, number);
        }
        return numbers;
    }

    private static int clique(List<Set<Integer>> graph, Set<Integer> candidates) {
        int best = 0;
        for (int pane : candidates) {
            Set<Integer> rest = new TreeSet<>(graph.get(pane));
            rest.retainAll(candidates);
            rest.removeIf(other -> other < pane);
            best = Math.max(best, 1 + clique(graph, rest));
        }
        return best;
    }

    // ---- the text

    /** The error offset, or -1: a character is allowed if the text up to it can be completed. */
    private int errorOffset() {
        StringBuilder plain = new StringBuilder();
        for (int i = 0; i < text.length(); i++) {
            if (text.charAt(i) != ' ') {
                plain.append(text.charAt(i));
                if (!canBecomeDrawing(plain.toString())) {
                    return i;
                }
            }
        }
        boolean whole = plain.length() > 0 && plain.charAt(plain.length() - 1) == ';';
        return whole ? -1 : text.length();
    }

    private static boolean canBecomeDrawing(String plain) {
        String[] parts = plain.split(";", -1);
        int complete = parts.length - 1;
        String open = parts[complete];
        if (complete > 7 || (complete == 7 && !open.isEmpty())) {
            return false;
        }
        for (String part : parts) {
            if (!part.matches("[0-5]{0,7}") || part.length() > (complete == 0 ? 7
                    : parts[0].length())) {
                return false;
            }
        }
        for (int i = 0; i < complete; i++) {
            if (parts[i].isEmpty() || parts[i].length() != parts[0].length()) {
                return false;
            }
        }
        return true;
    }

    private int load() {
        int offset = errorOffset();
        if (offset >= 0) {
            return -10 - offset;
        }
        String[] lines = text.toString().replace(" ", "").split(";");
        State next = blank(lines.length, lines[0].length(), now.cellLimit, now.cornerLimit);
        for (int cell : List.copyOf(next.colours.keySet())) {
            next.colours.put(cell, lines[cell / 10].charAt(cell % 10) - '0');
        }
        edit(next);
        text.setLength(0);
        return panes().size();
    }

    // ---- cuts

    private int changeCut(int r, int c, int side, boolean add) {
        boolean right = side == 0 && exists(r, c) && exists(r, c + 1);
        boolean down = side == 1 && exists(r, c) && exists(r + 1, c);
        if (!right && !down) {
            return -1;
        }
        String cut = cutBetween(10 * r + c, 10 * r + c + (right ? 1 : 10));
        State next = copy();
        if (add ? !next.cuts.add(cut) : !next.cuts.remove(cut)) {
            return -2;
        }
        edit(next);
        return next.cuts.size();
    }

    private Set<String> loose() {
        Set<String> set = new HashSet<>();
        for (Set<Integer> pane : panes()) {
            for (int cell : pane) {
                for (int other : around(cell, false)) {
                    if (pane.contains(other) && now.cuts.contains(cutBetween(cell, other))) {
                        set.add(cutBetween(cell, other));
                    }
                }
            }
        }
        return set;
    }

    // ---- the calls

    int answer(String method, int... a) {
        return switch (method) {
            case "appendCharacter" -> append(a[0]);
            case "clearText" -> clear();
            case "loadDrawing" -> load();
            case "setColour" -> colour(a[0], a[1], a[2]);
            case "rows" -> now.rows;
            case "columns" -> now.columns;
            case "colourAt" -> exists(a[0], a[1]) ? now.colours.get(10 * a[0] + a[1]) : -1;
            case "addCut" -> changeCut(a[0], a[1], a[2], true);
            case "removeCut" -> changeCut(a[0], a[1], a[2], false);
            case "looseCuts" -> loose().size();
            case "removeLooseCuts" -> removeLoose();
            case "paneCount" -> panes().size();
            case "paneAt" -> exists(a[0], a[1]) ? numberAt(10 * a[0] + a[1]) : -1;
            case "cuttableCount" -> (int) panes().stream().filter(this::easy).count();
            case "leadLength" -> lead();
            case "setCellLimit" -> cellLimit(a[0]);
            case "setCornerLimit" -> cornerLimit(a[0]);
            case "equalNeighbours" -> equal();
            case "colourCount" -> a[0] >= 0 && a[0] <= 2 ? count(a[0]) : -1;
            case "suggestedColour" -> suggested(a[0], a[1]);
            case "bestOrder" -> best();
            case "largestClique" -> clique(graph(), new TreeSet<>(colouring(0).keySet()));
            case "undo" -> back();
            default -> ofPane(method, a[0]);
        };
    }

    private int ofPane(String method, int number) {
        if (number < 0 || number >= panes().size()) {
            return -1;
        }
        Set<Integer> pane = panes().get(number);
        return switch (method) {
            case "paneSize" -> pane.size();
            case "innerCorners" -> corners(pane);
            case "holes" -> holeCount(pane);
            case "canBeCut" -> easy(pane) ? 1 : 0;
            case "neighbourCount" -> graph().get(number).size();
            case "splitPieces" -> plan(pane, boxOf(pane), new HashMap<>()).pieces;
            case "splitLead" -> plan(pane, boxOf(pane), new HashMap<>()).lead;
            case "applySplit" -> apply(pane);
            default -> throw new IllegalArgumentException(method);
        };
    }

    private int append(int code) {
        if (code < 0 || code > 255) {
            return -1;
        }
        if (text.length() == 80) {
            return -3;
        }
        return text.append((char) code).length();
    }

    private int clear() {
        int length = text.length();
        text.setLength(0);
        return length;
    }

    private int colour(int r, int c, int colour) {
        if (!exists(r, c) || colour < 0 || colour > 5) {
            return -1;
        }
        int before = now.colours.get(10 * r + c);
        if (before == colour) {
            return -2;
        }
        State next = copy();
        next.colours.put(10 * r + c, colour);
        edit(next);
        return before;
    }

    private int removeLoose() {
        Set<String> loose = loose();
        if (loose.isEmpty()) {
            return -2;
        }
        State next = copy();
        next.cuts.removeAll(loose);
        edit(next);
        return loose.size();
    }

    private int numberAt(int cell) {
        List<Set<Integer>> panes = panes();
        for (int i = 0; i < panes.size(); i++) {
            if (panes.get(i).contains(cell)) {
                return i;
            }
        }
        throw new IllegalStateException("a cell without a pane");
    }

    private int lead() {
        int twice = 0;
        for (Set<Integer> pane : panes()) {
            for (int cell : pane) {
                for (int other : around(cell, false)) {
                    twice += pane.contains(other) ? 0 : 1;
                }
            }
        }
        return twice / 2;
    }

    private int cellLimit(int limit) {
        if (limit < 1 || limit > 49) {
            return -1;
        }
        int before = now.cellLimit;
        State c = copy();
        edit(new State(c.rows, c.columns, c.colours, c.cuts, limit, c.cornerLimit));
        return before;
    }

    private int cornerLimit(int limit) {
        if (limit < 0 || limit > 8) {
            return -1;
        }
        int before = now.cornerLimit;
        State c = copy();
        edit(new State(c.rows, c.columns, c.colours, c.cuts, c.cellLimit, limit));
        return before;
    }

    private int apply(Set<Integer> pane) {
        if (easy(pane)) {
            return -2;
        }
        State next = copy();
        collect(pane, boxOf(pane), new HashMap<>(), next.cuts);
        edit(next);
        return panes().size();
    }

    private int equal() {
        List<Set<Integer>> panes = panes();
        int pairs = 0;
        for (int a = 0; a < panes.size(); a++) {
            for (int b = a + 1; b < panes.size(); b++) {
                int one = now.colours.get(panes.get(a).iterator().next());
                int two = now.colours.get(panes.get(b).iterator().next());
                pairs += one == two && near(panes.get(a), panes.get(b)) ? 1 : 0;
            }
        }
        return pairs;
    }

    private int count(int order) {
        return new HashSet<>(colouring(order).values()).size();
    }

    private int suggested(int order, int pane) {
        boolean known = order >= 0 && order <= 2 && pane >= 0 && pane < panes().size();
        return known ? colouring(order).get(pane) : -1;
    }

    private int best() {
        int best = 0;
        for (int order = 1; order <= 2; order++) {
            best = count(order) < count(best) ? order : best;
        }
        return best;
    }

    private int back() {
        if (history.isEmpty()) {
            return -2;
        }
        now = history.removeLast();
        return history.size();
    }
}
