/** The text and the input buffer; promises 1, 2 and 4: a new object, append and load. */
final class TextEdges {
    private TextEdges() {
    }

    // ---- THE TEXT

    @Says(at = "Terms", words = "A text has 0 to 240 bytes")
    static void textHasZeroTo240Bytes() {
        for (int length : new int[] {0, 1, 239, 240}) {
            BracketHall hall = new BracketHall();
            Check.due("load of " + length, Check.load(hall, "x".repeat(length)), 0);
            Check.due("bytes of the text", hall.size(0), length);
        }
        BracketHall full = Check.holding("x".repeat(240));
        Check.due("load of 241", Check.load(full, "x".repeat(241)), -2);
        Check.due("load of 600", Check.load(full, "x".repeat(600)), -2);
        Check.due("insert into 240", Check.insert(full, 240, "x"), -2);
        Check.due("wrap of 240", full.wrap(0, 240, 0), -2);
        Check.due("put into 240", Check.script(full, "put 0 120;"), -20);
        Check.due("bytes of the text", full.size(0), 240);
    }

    @Says(at = "Terms", words = "each a line feed (10) or 32 to 126")
    static void lineFeedOr32To126() {
        for (int value = 0; value < 256; value++) {
            boolean can = value == 10 || value >= 32 && value <= 126;
            String bytes = "x" + (char) value;
            BracketHall hall = new BracketHall();
            Check.due("load with " + value, Check.load(hall, bytes), can ? value == 40 || value == 41 ? 1 : 0 : -3);
            Check.due("insert with " + value, Check.insert(hall, 0, bytes), can ? 4 : -3);
            Check.due("put of " + value, Check.script(hall, "put 0 " + value + ";"), can ? 1 : -20);
            Check.dueText("text", Check.textOf(hall), can ? (char) value + bytes + bytes : "");
        }
    }

    @Says(at = "Terms", words = "Its places are 0 to its length less 1")
    static void placesOfBytes() {
        for (int length : new int[] {0, 1, 5, 240}) {
            BracketHall hall = Check.holding("y".repeat(length));
            for (int place : Whole.outside(0, length - 1)) {
                Check.dueNoPlace("look(" + place + ", 0) in " + length, () -> hall.look(place, 0));
                Check.dueNoPlace("around(" + place + ", 0) in " + length, () -> hall.around(place, 0));
                Check.dueNoPlace("costWithout(" + place + ") in " + length, () -> hall.costWithout(place));
            }
            for (int place = 0; place < length; place++) {
                Check.due("look(" + place + ", 0) in " + length, hall.look(place, 0), 'y');
            }
        }
    }

    @Says(at = "Terms", words = "what is between two bytes is told by the place behind it, "
        + "so there 0 to its length are allowed")
    static void placesBetweenBytes() {
        for (int length : new int[] {0, 1, 5, 239}) {
            for (int place : new int[] {0, length / 2, length}) {
                BracketHall hall = Check.holding("y".repeat(length));
                Check.due("mark(" + place + ") in " + length, hall.mark(place), 0);
                Check.due("insert at " + place + " in " + length, Check.insert(hall, place, "x"), length + 1);
                Check.due("the byte at " + place, hall.look(place, 0), 'x');
            }
            BracketHall hall = Check.holding("y".repeat(length));
            for (int place : Whole.outside(0, length)) {
                Check.dueNoPlace("mark(" + place + ") in " + length, () -> hall.mark(place));
                Check.dueNoPlace("insert at " + place + " in " + length, () -> hall.insert(place, 0));
            }
        }
    }

    @Says(at = "Terms", words = "Its lines are parted by line feeds (a line feed belongs to the line that it ends)")
    static void lineFeedBelongsToItsLine() {
        Check.dueText("lines", Check.looks(Check.holding("a\nb\n\n\nc"), 7), "0 0 1 1 2 3 4");
        Check.dueText("lines, a line feed first", Check.looks(Check.holding("\na"), 7), "0 1");
        Check.dueText("lines, a line feed last", Check.looks(Check.holding("a\n"), 7), "0 0");
        BracketHall most = Check.holding("\n".repeat(240));
        Check.due("line of the last of 240 line feeds", most.look(239, 7), 239);
    }

    @Says(at = "Terms", words = "a text has one line more than line feeds")
    static void oneLineMoreThanLineFeeds() {
        String[] texts = {"", "a", "\n", "a\n", "\na", "\n\n", "a\nb\n", "\n".repeat(240)};
        int[] lines = {1, 1, 2, 2, 2, 3, 3, 241};
        for (int i = 0; i < texts.length; i++) {
            Check.due("lines of " + texts[i], Check.holding(texts[i]).size(7), lines[i]);
        }
    }

    @Says(at = "Terms", words = "The column of a place is the number of bytes of its line ahead of it.")
    static void columns() {
        Check.dueText("columns", Check.looks(Check.holding("ab\nc\n\n\ndef"), 8), "0 1 2 0 1 0 0 0 1 2");
        Check.dueText("columns, a line feed first", Check.looks(Check.holding("\nab"), 8), "0 0 1");
        Check.due("last column of 240 bytes", Check.holding("x".repeat(240)).look(239, 8), 239);
        Check.due("column of a last line feed", Check.holding("x".repeat(239) + "\n").look(239, 8), 239);
        Check.due("column behind a line feed", Check.holding("x".repeat(238) + "\nx").look(239, 8), 0);
    }

    // ---- the input buffer

    @Says(at = "Terms", words = "The input buffer holds at most 600 bytes.")
    static void bufferHolds600() {
        BracketHall hall = new BracketHall();
        Check.feed(hall, "x".repeat(600));
        Check.due("a 601st byte", hall.append(0, 0, 0, 0, 0), -1);
        Check.dueNoArgument("load(601)", () -> hall.load(601));
        Check.due("a script of 600 bytes", Check.script(new BracketHall(), "want0;".repeat(100)), 100);
        Check.due("load(600)", hall.load(600), -2);
    }

    // ---- Promise 1

    @Says(at = "Promise 1", words = "Creates an empty text")
    static void newTextIsEmpty() {
        BracketHall hall = new BracketHall();
        Check.due("bytes", hall.size(0), 0);
        Check.due("lines", hall.size(7), 1);
        Check.due("brackets", hall.size(1), 0);
        Check.due("marks", hall.size(8), 0);
        Check.due("hidden bytes", hall.size(10), 0);
        Check.dueNoPlace("look(0, 0)", () -> hall.look(0, 0));
        Check.due("erase of nothing", hall.erase(0, 0), 0);
        Check.dueNoPlace("erase(0, 1)", () -> new BracketHall().erase(0, 1));
    }

    @Says(at = "Promise 1", words = "with one kind, the round brackets (40 and 41)")
    static void newKind() {
        BracketHall hall = new BracketHall();
        Check.due("kinds", hall.size(4), 1);
        Check.due("wrap in kind 0", hall.wrap(0, 0, 0), 2);
        Check.due("opening sign", hall.look(0, 0), 40);
        Check.due("closing sign", hall.look(1, 0), 41);
        Check.dueNoPlace("kind 1", () -> hall.count(1, 0));
        StringBuilder others = new StringBuilder("\n");
        for (char c = 32; c <= 126; c++) {
            others.append(c == 40 || c == 41 ? "" : c);
        }
        Check.due("brackets of all other signs", Check.load(hall, others.toString()), 0);
    }

    @Says(at = "Promise 1", words = "without a QUOTE and a NOTE sign")
    static void newHidesNothing() {
        BracketHall hall = new BracketHall();
        for (char c = 33; c <= 126; c++) {
            Check.load(hall, c + "x()");
            Check.due("hidden bytes behind " + c, hall.size(10), 0);
        }
    }

    @Says(at = "Promise 1", words = "with an empty input buffer")
    static void newBufferIsEmpty() {
        BracketHall hall = new BracketHall();
        Check.dueNoArgument("load(1)", () -> hall.load(1));
        Check.dueNoArgument("setup(1)", () -> hall.setup(1));
        Check.dueNoArgument("script(1)", () -> hall.script(1));
        Check.dueNoArgument("insert(0, 1)", () -> hall.insert(0, 1));
        Check.due("bytes in the buffer", Whole.buffered(hall), 0);
    }

    // ---- Promise 2

    @Says(at = "Promise 2", words = "Appends 20 bytes to the input buffer: the four bytes of each argument, "
        + "the most significant byte first.")
    static void fourBytesOfEach() {
        BracketHall hall = new BracketHall();
        hall.append(0x20212223, 0x7e7d7c7b, 0x0a0a0a0a, 0x41424344, 0x30313233);
        hall.load(20);
        Check.dueText("text", Check.textOf(hall), " !\"#~}|{\n\n\n\nABCD0123");
        hall.append(Integer.MIN_VALUE + 0x414243, 0, 0, 0, 0);
        Check.due("a first byte of 128", hall.load(1), -3);
        hall.append(0x41424344, 0x45464748, -1, 0, 0);
        Check.due("a ninth byte of 255", hall.insert(0, 9), -3);
        hall.append(0x414243ff, 0, 0, 0, 0);
        Check.due("the first three of 41 42 43 ff", hall.load(3), 0);
        hall.append(0x414243ff, 0, 0, 0, 0);
        Check.due("all of 41 42 43 ff", hall.load(4), -3);
    }

    @Says(at = "Promise 2", words = "Returns the new length of the buffer; "
        + "NONE, with nothing appended, if it would exceed 600.")
    static void appendUpTo600() {
        BracketHall hall = new BracketHall();
        for (int length = 20; length <= 600; length += 20) {
            Check.due("append to " + (length - 20), hall.append(0x78787878, 0, 0, 0, 0x2828280a), length);
        }
        Check.due("append to 600", hall.append(0x79797979, 0x79797979, 0, 0, 0), -1);
        Check.due("append to 600 once more", hall.append(1, 2, 3, 4, 5), -1);
        Check.dueNoArgument("one byte more", () -> hall.load(601));
        Check.due("as many as there are", hall.script(600), -11);
        Check.due("append to an emptied buffer", hall.append(0x78787878, 0, 0, 0, 0), 20);
        Check.due("what is first then", hall.load(4), 0);
        Check.dueText("what is first then", Check.textOf(hall), "xxxx");
    }

    // ---- Promise 4

    @Says(at = "Promise 4", words = "Makes the first length bytes of the input buffer the text")
    static void loadsTheFirstBytes() {
        for (int length : new int[] {0, 1, 7, 20}) {
            BracketHall hall = Check.holding("what was there");
            String text = "(abcdefghijklmnopqr)";
            Check.feed(hall, text);
            Check.due("load(" + length + ")", hall.load(length), length == 0 ? 0 : length == 20 ? 2 : 1);
            Check.dueText("text", Check.textOf(hall), text.substring(0, length));
        }
    }

    @Says(at = "Promise 4", words = "there are no marks then (COLOURS and costs stay; this is no change)")
    static void loadTakesMarksAlone() {
        BracketHall hall = Whole.hall();
        Check.due("load", hall.load(3), 0);
        Check.due("marks", hall.size(8), 0);
        Check.dueNoPlace("markAt(0)", () -> hall.markAt(0));
        Check.due("colours", hall.size(5), 4);
        Check.due("DROP", hall.size(11), 6);
        Check.due("GIVE", hall.size(12), 5);
        Check.due("CHANGE", hall.size(13), 4);
        Check.due("kinds", hall.size(4), 3);
        Check.due("changes", hall.size(9), 0);
        Check.due("the error stays", hall.errorPosition(), 12);
        Check.due("the report stays", hall.reportByte(0), '0');
    }

    @Says(at = "Promise 4", words = "The buffer is empty afterwards, also after a refusal, by which nothing else changes.")
    static void loadEmptiesTheBuffer() {
        for (int length : new int[] {0, 1, 40}) {
            BracketHall hall = Whole.hall();
            hall.load(length);
            Check.due("bytes in the buffer behind load(" + length + ")", Whole.buffered(hall), 0);
        }
        Whole.dueOnlyEmptied("load of 241 bytes", -2, h -> Check.load(h, "x".repeat(241)));
        Whole.dueOnlyEmptied("load with a tabulator", -3, h -> h.load(Check.feed(h, "\t") + Whole.INPUT.length()));
    }

    @Says(at = "Promise 4", words = "`length`: 0 to the length of the buffer")
    static void loadLengths() {
        BracketHall hall = new BracketHall();
        Check.due("load(0) of an empty buffer", hall.load(0), 0);
        Check.feed(hall, "(".repeat(20));
        Check.due("load(0) of a buffer", hall.load(0), 0);
        Check.feed(hall, "(".repeat(40));
        Check.due("load of all", hall.load(40), 40);
    }

    @Says(at = "Promise 4", words = "Returns the number of brackets")
    static void loadCountsBrackets() {
        Check.due("none", Check.load(new BracketHall(), "abc"), 0);
        Check.due("an empty text", Check.load(new BracketHall(), ""), 0);
        Check.due("lone ones and pairs", Check.load(new BracketHall(), "(()"), 3);
        Check.due("240", Check.load(new BracketHall(), ")".repeat(240)), 240);
        BracketHall hall = Whole.hall();
        hall.load(0);
        Check.due("no hidden ones", Check.load(hall, "(\"(\"[#]\n}"), 3);
    }

    @Says(at = "Promise 4", words = "-2 if there are more than 240 bytes, "
        + "-3 if one of them cannot be in a text (the first of these)")
    static void loadRefusals() {
        BracketHall hall = new BracketHall();
        Check.due("240 bytes", Check.load(hall, "x".repeat(240)), 0);
        Check.due("241 bytes", Check.load(hall, "x".repeat(241)), -2);
        Check.due("240 bytes, the first one wrong", Check.load(hall, "\t" + "x".repeat(239)), -3);
        Check.due("240 bytes, the last one wrong", Check.load(hall, "x".repeat(239) + "\t"), -3);
        Check.due("241 bytes, the first one wrong", Check.load(hall, "\t" + "x".repeat(240)), -2);
        Check.due("241 bytes, the last one wrong", Check.load(hall, "x".repeat(240) + "\t"), -2);
        Check.feed(hall, "x\t");
        Check.due("a wrong one behind the length", hall.load(1), 0);
        Check.due("the text of then", hall.size(0), 1);
    }

    @Says(at = "Promise 4", words = "Throws `IllegalArgumentException` if length is out of range")
    static void loadOutOfRange() {
        for (int length : Whole.outside(0, Whole.INPUT.length())) {
            Whole.dueNoArgument("load(" + length + ")", h -> h.load(length));
        }
    }
}
