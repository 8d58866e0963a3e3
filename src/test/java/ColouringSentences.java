/** What the description says of colourings, orders and cliques. */
final class ColouringSentences {
    private static final String CHECKERED = "0101010;1010101;".repeat(3) + "0101010;";

    private ColouringSentences() { }

    static void check() {
        colouring();
        byNumber();
        byNeighbours();
        byRemoval();
        counts();
        cliques();
    }

    private static Sentence of(String words) {
        return new Sentence("Description", words);
    }

    /** The calls that ask for the numbers of all panes in the colouring by the order. */
    private static String numbers(int order, int... due) {
        StringBuilder script = new StringBuilder();
        for (int pane = 0; pane < due.length; pane++) {
            script.append(" suggestedColour(").append(order).append(',').append(pane).append(")=")
                    .append(due[pane]);
        }
        return script.append(" suggestedColour(").append(order).append(',').append(due.length)
                .append(")=-1").toString();
    }

    private static void colouring() {
        Sentence different = of("A colouring gives each pane a number, 0 or greater, so that"
                + " neighbouring panes have different numbers.");
        Sentence smallest = of("It is made by considering the panes in an order, where each pane"
                + " gets the smallest number that none of its neighbours has yet. There are three"
                + " orders:");
        for (int order = 0; order < 3; order++) {
            int first = order == 2 ? 1 : 0;
            different.calls(numbers(order, 0)).on("01;", 2, numbers(order, first, 1 - first));
            smallest.on("000;102;000;", 3, numbers(order, first, 1 - first, 1 - first));
        }
        smallest.on("555;012;", 4, numbers(0, 0, 1, 2, 1))
                .on("4441;3033;", 5, numbers(0, 0, 1, 1, 2, 3));
        of("(It does not depend on the colours of the cells.)")
                .on("01;23;", 4, numbers(0, 0, 1, 1, 0) + numbers(1, 0, 1, 1, 0)
                        + numbers(2, 0, 1, 1, 0))
                .on("01;10;", 4, numbers(0, 0, 1, 1, 0) + numbers(1, 0, 1, 1, 0)
                        + numbers(2, 0, 1, 1, 0))
                .on("55;55;", 1, "addCut(0,0,0)=1 addCut(0,0,1)=2 addCut(1,0,0)=3 addCut(0,1,1)=4"
                        + numbers(0, 0, 1, 1, 0) + numbers(1, 0, 1, 1, 0)
                        + numbers(2, 0, 1, 1, 0));
    }

    private static void byNumber() {
        of("0: by the number of the pane, smallest first")
                .on("0123;", 4, numbers(0, 0, 1, 0, 1))
                .on("01234;", 5, numbers(0, 0, 1, 0, 1, 0))
                .on("4441;3033;", 5, numbers(0, 0, 1, 1, 2, 3));
    }

    private static void byNeighbours() {
        of("1: by the number of neighbouring panes, greatest first")
                .on("012;", 3, numbers(1, 1, 0, 1))
                .on("01234;", 5, numbers(1, 1, 0, 1, 0, 1))
                .on("4441;3033;", 5, numbers(1, 0, 1, 2, 1, 2));
        of("for equal ones by the number of the pane, smallest first")
                .on("01;", 2, numbers(1, 0, 1))
                .on("0123;", 4, numbers(1, 1, 0, 1, 0))
                .on("00;12;", 3, numbers(1, 0, 1, 2));
    }

    private static void byRemoval() {
        of("2: the reverse of the order of removal: as long as there are panes left, the pane that"
                + " has the fewest neighbours among those left")
                .on("0123;", 4, numbers(2, 1, 0, 1, 0))
                .on("4441;3033;", 5, numbers(2, 2, 1, 0, 1, 0))
                .on("002;313;355;", 6, numbers(2, 0, 2, 1, 2, 1, 0));
        of("(for equal ones the one with the smallest number) is removed; so the pane that is"
                + " removed last is considered first.")
                .on("01;", 2, numbers(2, 1, 0))
                .on("00;12;", 3, numbers(2, 2, 1, 0))
                .on("01234;", 5, numbers(2, 0, 1, 0, 1, 0));
    }

    private static void counts() {
        of("The colour count of an order is the number of different numbers in its colouring.")
                .on("0;", 1, "colourCount(0)=1 colourCount(1)=1 colourCount(2)=1")
                .on("01;", 2, "colourCount(0)=2 colourCount(1)=2 colourCount(2)=2")
                .on(CHECKERED, 49, "colourCount(0)=2 colourCount(1)=2 colourCount(2)=2")
                .on("2222;0102;2212;", 6, "colourCount(0)=3 colourCount(1)=3 colourCount(2)=4")
                .on("5020;1354;1024;5555;", 11, "colourCount(0)=5 colourCount(1)=5"
                        + " colourCount(2)=4");
    }

    private static void cliques() {
        of("A clique is a set of panes any two of which are neighbours.")
                .on("0;", 1, "largestClique()=1")
                .on("0123450;", 7, "largestClique()=2")
                .on("01;10;", 4, "largestClique()=2")
                .on("00;12;", 3, "largestClique()=3")
                .on("0000;0120;0330;0000;", 4, "largestClique()=4")
                .on(CHECKERED, 49, "largestClique()=2");
    }
}
