/** What the description says of the text that a drawing is read from. */
final class TextSentences {
    private static final String FULL = "0000000;".repeat(7);

    private TextSentences() { }

    static void check() {
        length();
        rows();
        widths();
        spaces();
        firstWrongCharacter();
        endOfText();
    }

    private static Sentence of(String words) {
        return new Sentence("Description", words);
    }

    private static void length() {
        of("A drawing is read from a text buffer of at most 80 characters:")
                .typed(" ".repeat(24) + FULL, "appendCharacter(32)=-3 loadDrawing()=1 rows()=7"
                        + " columns()=7")
                .typed(FULL + " ".repeat(24), "appendCharacter(48)=-3 loadDrawing()=1 rows()=7")
                .typed(FULL + " ".repeat(23), "appendCharacter(32)=80 appendCharacter(32)=-3"
                        + " loadDrawing()=1 appendCharacter(32)=1");
    }

    private static void rows() {
        Sentence rows = of("1 to 7 rows, each of which consists of 1 to 7 digits from 0 to 5"
                + " followed by a semicolon");
        for (int count = 1; count <= 7; count++) {
            rows.on("0;".repeat(count), 1, "rows()=" + count + " columns()=1")
                    .on("0".repeat(count) + ";", 1, "rows()=1 columns()=" + count);
        }
        rows.on("012345;", 6, "colourAt(0,0)=0 colourAt(0,1)=1 colourAt(0,2)=2 colourAt(0,3)=3"
                + " colourAt(0,4)=4 colourAt(0,5)=5")
                .typed("0;".repeat(7) + "0", "loadDrawing()=-24")
                .typed("0;".repeat(7) + ";", "loadDrawing()=-24")
                .typed("00000000", "loadDrawing()=-17")
                .typed("0;00;", "loadDrawing()=-13")
                .typed(";", "loadDrawing()=-10")
                .typed("0;;", "loadDrawing()=-12")
                .typed("0,", "loadDrawing()=-11")
                .typed("0:", "loadDrawing()=-11")
                .typed("0<", "loadDrawing()=-11");
        for (int code = 0; code < 256; code++) {
            boolean digit = code >= '0' && code <= '5';
            boolean space = code == ' ';
            String last = String.valueOf((char) code);
            rows.typed(last, "loadDrawing()=" + (digit || space ? -11 : -10));
            rows.typed("3" + last, "loadDrawing()=" + (digit || space ? -12 : code == ';' ? 1
                    : -11));
            rows.typed("3;" + last, "loadDrawing()=" + (digit ? -13 : space ? 1 : -12));
        }
    }

    private static void widths() {
        of("all rows have as many digits as the first row.")
                .typed("00;0;", "loadDrawing()=-14")
                .typed("00;000;", "loadDrawing()=-15")
                .typed("00;00;0;", "loadDrawing()=-17")
                .typed("00;00;000", "loadDrawing()=-18")
                .typed("0;0;0;0;0;0;00;", "loadDrawing()=-23")
                .typed("00;00;00;00;00;00;0;", "loadDrawing()=-29")
                .typed("0000000;000000;", "loadDrawing()=-24")
                .typed("0000000;00000000;", "loadDrawing()=-25")
                .on("00;11;22;", 3, "rows()=3 columns()=2");
    }

    private static void spaces() {
        of("Spaces (code 32) may stand anywhere and have no effect.")
                .on(" 01;23;", 4, "columns()=2")
                .on("0 1;23;", 4, "columns()=2 colourAt(0,1)=1")
                .on("01 ;23;", 4, "columns()=2 rows()=2")
                .on("01; 23;", 4, "colourAt(1,0)=2")
                .on("01;23; ", 4, "rows()=2")
                .on("   0   1   ;   2   3   ;   ", 4, "rows()=2 columns()=2 colourAt(1,1)=3")
                .on(" 0 ;".repeat(7) + "   ", 1, "rows()=7 columns()=1")
                .on("0 0 0 0 0 0 0 ; ", 1, "rows()=1 columns()=7")
                .typed(" ;", "loadDrawing()=-11")
                .typed("0 ; ;", "loadDrawing()=-14")
                .typed("\u001f0;", "loadDrawing()=-10")
                .typed("!0;", "loadDrawing()=-10")
                .typed("0\t;", "loadDrawing()=-11")
                .typed("0;\n", "loadDrawing()=-12")
                .typed("0;\u00a0", "loadDrawing()=-12");
    }

    private static void firstWrongCharacter() {
        of("The error offset is the 0-based offset of the first character, other than a space, that"
                + " is not allowed where it stands")
                .typed("a", "loadDrawing()=-10")
                .typed("   a", "loadDrawing()=-13")
                .typed("01;2x;y", "loadDrawing()=-14")
                .typed("01;2;x", "loadDrawing()=-14")
                .typed("0 1;2 3 4", "loadDrawing()=-18")
                .typed("01;23;x", "loadDrawing()=-16")
                .typed(FULL + "0", "loadDrawing()=-66")
                .typed(FULL + ";", "loadDrawing()=-66")
                .typed(FULL + " ".repeat(23) + "0", "loadDrawing()=-89")
                .typed(" ".repeat(79) + ";", "loadDrawing()=-89")
                .typed(" ".repeat(79) + "x", "loadDrawing()=-89");
    }

    private static void endOfText() {
        Sentence end = of("if all characters are allowed, but the text has no row or ends inside a"
                + " row, it is the length of the text.")
                .typed("", "loadDrawing()=-10")
                .typed(" ", "loadDrawing()=-11")
                .typed(" ".repeat(80), "loadDrawing()=-90")
                .typed("0", "loadDrawing()=-11")
                .typed("0 ", "loadDrawing()=-12")
                .typed("0000000", "loadDrawing()=-17")
                .typed("01;2", "loadDrawing()=-14")
                .typed("01;23", "loadDrawing()=-15")
                .typed("01;23 ", "loadDrawing()=-16")
                .typed("01;2" + " ".repeat(76), "loadDrawing()=-90")
                .typed(" ".repeat(79) + "0", "loadDrawing()=-90")
                .typed(FULL.substring(0, 55), "loadDrawing()=-65");
        end.run().type("0123450;1").calls("loadDrawing()=-19 appendCharacter(59)=10"
                + " loadDrawing()=-19 clearText()=10 loadDrawing()=-10");
    }
}
