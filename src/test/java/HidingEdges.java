/** How a text is read: strings, notes, and what they hide. */
final class HidingEdges {
    private static final String SIGNS = "kinds () []; quote \" escape \\; note #;";

    private HidingEdges() {
    }

    /** For each byte of a text 0 if it is not hidden, 1 within a string, 2 within a note. */
    private static void due(String text, String hidden) {
        BracketHall hall = Check.holding(SIGNS, text);
        Check.dueText("hidden in " + text, Check.looks(hall, 6).replace(" ", ""), hidden);
        Check.due("hidden bytes of " + text, hall.size(10), hidden.replace("0", "").length());
        int brackets = 0;
        for (int place = 0; place < text.length(); place++) {
            boolean bracket = "()[]".indexOf(text.charAt(place)) >= 0 && hidden.charAt(place) == '0';
            Check.due("kind at " + place + " of " + text, hall.look(place, 1) >= 0 ? 1 : 0, bracket ? 1 : 0);
            brackets += bracket ? 1 : 0;
        }
        Check.due("brackets of " + text, hall.size(1), brackets);
    }

    @Says(at = "Terms", words = "The text is read from its first byte on.")
    static void fromTheFirstByteOn() {
        due("(", "0");
        due("\"", "1");
        due("#", "2");
        due("\"(\"(\"", "11101");
        due("(\"(\"(", "01110");
        due("#\"\n\"#", "22011");
    }

    @Says(at = "Terms", words = "A QUOTE begins a string, in which everything (line feeds, too) is hidden")
    static void everythingInAString() {
        due("\"()[]#ab\n\n(\"(", "1111111111110");
        due("(\"\n\"\n", "01110");
        BracketHall hall = Check.holding(SIGNS, "\"\n\"(");
        Check.due("a hidden line feed ends its line", hall.look(3, 7), 1);
    }

    @Says(at = "Terms", words = "up to the next QUOTE, which ends it")
    static void nextQuoteEnds() {
        due("\"\"(", "110");
        due("\"(\"(\"(\"(", "11101110");
        due("\"\"\"\"(", "11110");
        due("\"\"\"(", "1111");
    }

    @Says(at = "Terms", words = "or to the end of the text")
    static void toTheEndOfTheText() {
        due("(\"", "01");
        due("(\"(\n(\n", "011111");
        due("\"".repeat(239) + "(", "1".repeat(240));
    }

    @Says(at = "Terms", words = "an ESCAPE within a string and the byte behind it (if there is one) are hidden, "
        + "and this byte does not end the string")
    static void escapeWithinAString() {
        due("\"\\\"(\"(", "111110");
        due("\"\\\\\"(", "11110");
        due("\"\\\\\\\"(\"(", "11111110");
        due("\"\\\n(\"(", "111110");
        due("\"\\a\"(", "11110");
        due("\"\\#\"(", "11110");
        due("\"\\(\"(", "11110");
        due("(\"\\", "011");
        due("(\"\\\"", "0111");
        due("(\"\\\\", "0111");
        due("\"a\\\"\\\"\\\"\"(", "1111111110");
        BracketHall hall = Check.holding(SIGNS, "(\"\\");
        Check.due("hidden bytes with an escape at the end", hall.size(10), 2);
        Check.due("cost without a byte ahead of it", hall.costWithout(0), 0);
        Check.load(hall, "\"\"(");
        Check.due("hidden bytes of the next text", hall.size(10), 2);
        Check.due("cost without a byte of the next text", hall.costWithout(2), 0);
        Check.due("cost without a quote of the next text", hall.costWithout(1), 0);
        Check.due("cost of the next text", hall.repairCost(), 2);
    }

    @Says(at = "Terms", words = "Outside of strings an ESCAPE is a byte like others.")
    static void escapeOutside() {
        due("\\\"(\"(", "01110");
        due("\\(\\)", "0000");
        due("\\#(\n(", "02200");
        due("\\\\(", "000");
        due("#\\\n(", "2200");
        due("#\\\"\n(\"", "222001");
        due("\"\"\\\"(", "11011");
        due("\\", "0");
    }

    @Says(at = "Terms", words = "A NOTE sign begins a note, in which everything is hidden up to the end of its line "
        + "(the line feed is not in it) or of the text.")
    static void noteToTheEndOfItsLine() {
        due("(#()[]\\\"a\n(", "02222222200");
        due("#\n(", "200");
        due("#\n#\n\n(#", "2020002");
        due("(#", "02");
        due("(#((", "0222");
        due("\n#\n", "020");
    }

    @Says(at = "Terms", words = "Within a note nothing begins, within a string no note.")
    static void nothingWithinANote() {
        due("#\"\n(", "2200");
        due("##\n(", "2200");
        due("#\"#\"\n(\"", "2222001");
        due("\"#\"(", "1110");
        due("\"\n#(\n\"(", "1111110");
    }

    @Says(at = "Terms", words = "The signs by which strings and notes begin or end are hidden, too "
        + "(as part of the string or note).")
    static void signsAreHiddenToo() {
        due("(\"(\"", "0111");
        due("\"\"", "11");
        due("a#a", "022");
        Check.dueText("report", Check.reportOf(Check.holding(SIGNS, "a\"a\"a#a\na")), ".###.##\n.");
    }

    @Says(at = "Terms", words = "A bracket is an opening or closing sign that is not hidden.")
    static void bracketsAreNotHidden() {
        due("()[]", "0000");
        due("(\")\"[#]\n)", "011102200");
        due("{}<>", "0000");
        BracketHall hall = Check.holding(SIGNS, "(\")\"[#]\n)");
        Check.dueText("kinds", Check.looks(hall, 1), "0 -1 -1 -1 1 -1 -1 -1 0");
        Check.due("brackets", hall.size(1), 3);
        Check.due("partner behind the string", hall.look(0, 3), 8);
    }
}
