import java.util.Random;

/** Long runs of calls, chosen by fixed seeds, with the answers of the slow planner as due. */
public final class ModelTest {
    private static final int RUNS = 400;
    private static final int CALLS = 512;
    private static final String[] PANE_METHODS = {"paneSize", "innerCorners", "holes", "canBeCut",
        "neighbourCount", "splitPieces", "splitLead"};
    private static final String[] PLAIN_METHODS = {"rows", "columns", "looseCuts", "paneCount",
        "cuttableCount", "leadLength", "equalNeighbours", "bestOrder", "largestClique"};
    private static final int[] ODD = {-2147483648, -1000, -1, 0, 1, 2, 3, 5, 6, 7, 8, 9, 48, 49,
        50, 255, 256, 1000, 2147483647};

    private final Random random;
    private final String name;
    private final GlassPlanner fast = new GlassPlanner();
    private final SlowPlanner slow = new SlowPlanner();
    private int made = 0;

    private ModelTest(int seed) {
        random = new Random(seed);
        name = "run " + seed;
    }

    public static void main(String[] args) {
        for (int seed = 0; seed < RUNS; seed++) {
            ModelTest test = new ModelTest(seed);
            while (test.made < CALLS) {
                test.step();
            }
        }
        Run.end();
    }

    private int call(String method, int... arguments) {
        Object[] boxed = new Object[arguments.length];
        StringBuilder words = new StringBuilder(method).append('(');
        for (int i = 0; i < arguments.length; i++) {
            boxed[i] = arguments[i];
            words.append(i == 0 ? "" : ",").append(arguments[i]);
        }
        int want = slow.answer(method, arguments);
        if (made < CALLS) {
            made++;
            Run.due(name + " call " + made, words.append(')').toString(),
                    Run.answer(fast, method, boxed), want);
        }
        return want;
    }

    private void step() {
        switch (random.nextInt(12)) {
            case 0 -> load();
            case 1 -> broken();
            case 2, 3 -> call("setColour", row(), column(), random.nextInt(random.nextInt(6) + 1));
            case 4, 5 -> call("addCut", row(), column(), random.nextInt(2));
            case 6 -> removals();
            case 7 -> limits();
            case 8 -> split();
            case 9 -> undos();
            case 10 -> oddCall();
            default -> look();
        }
        lookBriefly();
    }

    private int row() {
        return random.nextInt(slow.answer("rows"));
    }

    private int column() {
        return random.nextInt(slow.answer("columns"));
    }

    private int pane() {
        return random.nextInt(slow.answer("paneCount"));
    }

    private void type(String text) {
        for (int i = 0; i < text.length(); i++) {
            call("appendCharacter", text.charAt(i));
        }
    }

    private String drawing() {
        int rows = 1 + random.nextInt(7);
        int columns = 1 + random.nextInt(7);
        int colours = 1 + random.nextInt(random.nextBoolean() ? 2 : 6);
        StringBuilder text = new StringBuilder();
        for (int r = 0; r < rows; r++) {
            for (int c = 0; c < columns; c++) {
                text.append((char) ('0' + (random.nextInt(3) == 0 ? random.nextInt(colours) : 0)));
            }
            text.append(';');
        }
        return text.toString();
    }

    private void load() {
        call("clearText");
        StringBuilder text = new StringBuilder(drawing());
        for (int spaces = random.nextInt(4); spaces > 0; spaces--) {
            text.insert(random.nextInt(text.length() + 1), ' ');
        }
        type(text.toString());
        call("loadDrawing");
    }

    private void broken() {
        StringBuilder text = new StringBuilder(drawing());
        int place = random.nextInt(text.length());
        switch (random.nextInt(5)) {
            case 0 -> text.deleteCharAt(place);
            case 1 -> text.setLength(place);
            case 2 -> text.insert(place, ';');
            case 3 -> text.setCharAt(place, (char) (40 + random.nextInt(25)));
            default -> text.insert(place, (char) ('0' + random.nextInt(7)));
        }
        type(text.toString());
        call("loadDrawing");
        if (random.nextBoolean()) {
            call("clearText");
        }
    }

    private void removals() {
        if (random.nextInt(3) == 0) {
            call("removeLooseCuts");
        } else {
            call("removeCut", row(), column(), random.nextInt(2));
        }
    }

    private void limits() {
        if (random.nextBoolean()) {
            call("setCellLimit", 1 + random.nextInt(random.nextBoolean() ? 8 : 49));
        } else {
            call("setCornerLimit", random.nextInt(random.nextBoolean() ? 3 : 9));
        }
    }

    private void split() {
        int pane = pane();
        call("splitPieces", pane);
        call("splitLead", pane);
        call("applySplit", pane);
        call("looseCuts");
        for (int i = 0; i < 6; i++) {
            call("paneAt", row(), column());
        }
    }

    private void undos() {
        for (int i = random.nextInt(random.nextInt(10) + 1); i >= 0; i--) {
            call("undo");
        }
    }

    private int odd() {
        return ODD[random.nextInt(ODD.length)];
    }

    private void oddCall() {
        switch (random.nextInt(9)) {
            case 0 -> call("appendCharacter", odd());
            case 1 -> call("setColour", odd(), column(), odd());
            case 2 -> call("colourAt", row(), odd());
            case 3 -> call("addCut", odd(), odd(), random.nextInt(4) - 1);
            case 4 -> call("removeCut", row(), odd(), odd());
            case 5 -> call("paneAt", odd(), odd());
            case 6 -> call(random.nextBoolean() ? "setCellLimit" : "setCornerLimit", odd());
            case 7 -> call("suggestedColour", random.nextInt(5) - 1, odd());
            default -> call(PANE_METHODS[random.nextInt(PANE_METHODS.length)], odd());
        }
    }

    private void lookBriefly() {
        call(PLAIN_METHODS[random.nextInt(PLAIN_METHODS.length)]);
        call(PANE_METHODS[random.nextInt(PANE_METHODS.length)], pane());
        call("paneAt", row(), column());
        call("suggestedColour", random.nextInt(3), pane());
    }

    private void look() {
        for (String method : PLAIN_METHODS) {
            call(method);
        }
        int pane = pane();
        for (String method : PANE_METHODS) {
            call(method, pane);
        }
        for (int order = -1; order <= 3; order++) {
            call("colourCount", order);
        }
        call("colourAt", row(), column());
    }
}
