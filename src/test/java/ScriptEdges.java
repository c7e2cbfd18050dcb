/** Scripts; promise 33: script. */
final class ScriptEdges {
    private static final String KINDS = "kinds () [];";

    private ScriptEdges() {
    }

    /** A script with an error at this position, by which nothing changes. */
    static void dueError(String script, int position) {
        BracketHall hall = Check.holding("(a))");
        Check.due("script " + script, Check.script(hall, script), -11);
        Check.due("position of the error of " + script, hall.errorPosition(), position);
        Check.dueText("text behind " + script, Check.textOf(hall), "(a))");
        Check.due("changes behind " + script, hall.size(9), 0);
    }

    /** A script on a text, with the answer and the text then; the text is the same if it is not done. */
    private static BracketHall due(String text, String script, int answer, String then) {
        BracketHall hall = Check.holding(KINDS, text);
        // What is asked for ahead of the script must not be what is answered behind it.
        Check.due("brackets ahead of " + script, hall.size(1), Check.holding(KINDS, text).size(1));
        Check.due("script " + script, Check.script(hall, script), answer);
        String due = answer < 0 ? text : then;
        Check.dueText("text behind " + script, Check.textOf(hall), due);
        Check.dueText("report behind " + script, Check.reportOf(hall), Check.reportOf(Check.holding(KINDS, due)));
        Check.due("cost behind " + script, hall.repairCost(), Check.holding(KINDS, due).repairCost());
        Check.due("changes behind " + script, hall.size(9), answer < 0 ? 0 : 1);
        Check.due("position of no error of " + script, hall.errorPosition(), -1);
        return hall;
    }

    private static void dueNotDone(String text, String script, int index) {
        due(text, script, -20 - index, text);
    }

    // ---- the grammar

    @Says(at = "Terms", words = "script = { ( \"erase\" from to")
    static void grammarOfErase() {
        due("abc", "erase 0 1;", 1, "bc");
        dueError("erase", 5);
        dueError("erase;", 5);
        dueError("erase 0", 7);
        dueError("erase 0;", 7);
        dueError("erase 0 1", 9);
        dueError("erase 0 1 2;", 10);
        dueError("erase a 1;", 6);
        dueError("erase 0 (;", 8);
        dueError("eras 0 1;", 0);
        dueError("arase 0 1;", 0);
        dueError("erasf 0 1;", 0);
        dueError("eraser 0 1;", 0);
        dueError("Erase 0 1;", 0);
    }

    @Says(at = "Terms", words = "| \"put\" place value | \"swap\" place place")
    static void grammarOfPutAndSwap() {
        due("abc", "put 0 40;swap 0 1;", 2, "a(bc");
        dueError("put", 3);
        dueError("put;", 3);
        dueError("put 0;", 5);
        dueError("put 0 a;", 6);
        dueError("put 0 (;", 6);
        dueError("put 0 40 1;", 9);
        dueError("swap", 4);
        dueError("swap;", 4);
        dueError("swap 0;", 6);
        dueError("swap 0 1", 8);
        dueError("swap 0 1 2;", 9);
        dueError("pus 0 40;", 0);
        dueError("qut 0 40;", 0);
        dueError("swop 0 1;", 0);
        dueError("twap 0 1;", 0);
    }

    @Says(at = "Terms", words = "| \"wrap\" from to kind | \"repair\" | \"want\" number ) \";\" }")
    static void grammarOfWrapRepairWant() {
        due("abc", "wrap 0 1 0;repair;want 0;", 3, "(a)bc");
        dueError("wrap", 4);
        dueError("wrap 0;", 6);
        dueError("wrap 0 1;", 8);
        dueError("wrap 0 1 0", 10);
        dueError("wrap 0 1 0 0;", 11);
        dueError("wrap 0 1 ();", 9);
        dueError("repair", 6);
        dueError("repair 0;", 7);
        dueError("repair want 0;", 7);
        dueError("want", 4);
        dueError("want;", 4);
        dueError("want 0", 6);
        dueError("want 0 0;", 7);
        dueError("wand 0;", 0);
        dueError("vant 0;", 0);
        dueError("vrap 0 1 0;", 0);
        dueError("sepair;", 0);
        dueError("wran 0 1 0;", 0);
        dueError("repai;", 0);
        dueError("repairs;", 0);
        dueError(";", 0);
        dueError("want 0;;", 7);
        dueError("0;", 0);
        dueError("();", 0);
        dueError("kinds ();", 0);
        dueError("undo;", 0);
    }

    @Says(at = "Terms", words = "Errors of a setup or a script have these codes.")
    static void errorsOfScripts() {
        dueError("want 0; erase 0 0; abcdefgh;", 19);
        dueError("want 0;\n\nbad;", 9);
        dueError("want 0; want  ", 14);
        dueError("want 9; bad", 8);
        dueError("want0;".repeat(99) + "want0", 599);
    }

    // ---- the statements

    @Says(at = "Terms", words = "In a script \"erase\" does what erase does")
    static void eraseInAScript() {
        due("abcd", "erase 1 3;", 1, "ad");
        due("a(b)[]", "erase 1 3;", 1, "a)[]");
        due("abcd", "erase 0 4;", 1, "");
        due("abcd", "erase 4 4;", 1, "abcd");
        due("abcd", "erase 2 2;", 1, "abcd");
        due("", "erase 0 0;", 1, "");
        dueNotDone("abcd", "erase 2 1;", 0);
        dueNotDone("abcd", "erase 0 5;", 0);
        dueNotDone("abcd", "erase 5 5;", 0);
        dueNotDone("abcd", "erase 0 999;", 0);
        BracketHall hall = MarkEdges.marked("abcd", 0, 1, 2, 3, 4);
        Check.script(hall, "erase 1 3;");
        MarkEdges.due(hall, "0 1 1 1 2");
    }

    @Says(at = "Terms", words = "\"put\" puts one byte with the value (10, or 32 to 126) in at a place (0 to the length)")
    static void putInAScript() {
        for (int value = 0; value <= 999; value++) {
            if (value == 10 || value >= 32 && value <= 126) {
                due("ab", "put 1 " + value + ";", 1, "a" + (char) value + "b");
            } else {
                dueNotDone("ab", "put 1 " + value + ";", 0);
            }
        }
        due("ab", "put 0 120;", 1, "xab");
        due("ab", "put 2 120;", 1, "abx");
        due("", "put 0 120;", 1, "x");
        dueNotDone("ab", "put 3 120;", 0);
        dueNotDone("ab", "put 999 120;", 0);
        dueNotDone("", "put 1 120;", 0);
        due("x".repeat(239), "put 239 40;", 1, "x".repeat(239) + "(");
        dueNotDone("x".repeat(240), "put 240 40;", 0);
        dueNotDone("x".repeat(240), "put 0 40; erase 0 1;", 0);
        BracketHall hall = MarkEdges.marked("ab", 0, 1, 2);
        Check.script(hall, "put 1 120;");
        MarkEdges.due(hall, "0 2 3");
    }

    @Says(at = "Terms", words = "\"swap\" exchanges the bytes at two places (or one and the same; marks stay)")
    static void swapInAScript() {
        due("abcd", "swap 0 3;", 1, "dbca");
        due("abcd", "swap 3 0;", 1, "dbca");
        due("abcd", "swap 2 2;", 1, "abcd");
        due("a", "swap 0 0;", 1, "a");
        due("x".repeat(239) + "(", "swap 0 239;", 1, "(" + "x".repeat(239));
        dueNotDone("abcd", "swap 0 4;", 0);
        dueNotDone("abcd", "swap 4 0;", 0);
        dueNotDone("abcd", "swap 4 4;", 0);
        dueNotDone("", "swap 0 0;", 0);
        dueNotDone("abcd", "swap 999 999;", 0);
        BracketHall hall = MarkEdges.marked("ab)(", 0, 1, 2, 3, 4);
        Check.script(hall, "swap 2 3;");
        MarkEdges.due(hall, "0 1 2 3 4");
        Check.due("pairs behind a swap", hall.size(2), 1);
    }

    @Says(at = "Terms", words = "\"wrap\" does what wrap does")
    static void wrapInAScript() {
        due("abc", "wrap 1 2 0;", 1, "a(b)c");
        due("abc", "wrap 0 3 1;", 1, "[abc]");
        due("abc", "wrap 3 3 1;", 1, "abc[]");
        due("", "wrap 0 0 0;", 1, "()");
        due("x".repeat(238), "wrap 0 238 0;", 1, "(" + "x".repeat(238) + ")");
        dueNotDone("abc", "wrap 2 1 0;", 0);
        dueNotDone("abc", "wrap 0 4 0;", 0);
        dueNotDone("abc", "wrap 4 4 0;", 0);
        dueNotDone("abc", "wrap 0 3 2;", 0);
        dueNotDone("abc", "wrap 0 3 999;", 0);
        dueNotDone("x".repeat(239), "wrap 0 1 0;", 0);
        dueNotDone("x".repeat(239), "wrap 0 1 0; erase 0 2;", 0);
        dueNotDone("x".repeat(240), "wrap 0 1 0;", 0);
        BracketHall hall = MarkEdges.marked("abc", 0, 1, 2, 3);
        Check.script(hall, "wrap 1 2 0;");
        MarkEdges.due(hall, "0 2 4 5");
    }

    @Says(at = "Terms", words = "\"repair\" does THE REPAIR")
    static void repairInAScript() {
        due("a(b]", "repair;", 1, "ab");
        due("abc", "repair;", 1, "abc");
        due("", "repair;", 1, "");
        due("(" + "x".repeat(239), "repair;", 1, "x".repeat(239));
        due("ab", "put 1 40;repair;want 0;", 3, "ab");
        BracketHall given = Check.holding("kinds () []; costs 9 1 9;", "(" + "x".repeat(239));
        Check.due("241 bytes", Check.script(given, "want 1; repair;"), -21);
        Check.due("240 bytes", Check.script(given, "erase 1 2; repair;"), 2);
        Check.due("240 bytes", given.size(0), 240);
        BracketHall marked = MarkEdges.marked("a(b", 0, 1, 2, 3);
        Check.script(marked, "repair;");
        MarkEdges.due(marked, "0 1 1 2");
    }

    @Says(at = "Terms", words = "\"want\" does nothing, but can be done only if so many brackets are without partners")
    static void wantInAScript() {
        due("a", "want 0;", 1, "a");
        dueNotDone("a", "want 1;", 0);
        due("(()", "want 1;", 1, "(()");
        dueNotDone("(()", "want 0;", 0);
        dueNotDone("(()", "want 2;", 0);
        dueNotDone("(()", "want 999;", 0);
        due("(".repeat(240), "want 240;", 1, "(".repeat(240));
        dueNotDone("(".repeat(240), "want 241;", 0);
        due("a", "want 0; put 0 40; want 1; put 0 41; want 2; swap 0 1; want 0;", 7, "()a");
    }

    @Says(at = "Terms", words = "All numbers are 0 to 999.")
    static void numbersUpTo999() {
        due("a", "want 0;", 1, "a");
        dueNotDone("a", "want 999;", 0);
        dueNotDone("a", "erase 999 999;", 0);
        dueNotDone("a", "swap 0 999;", 0);
        dueNotDone("a", "put 999 999;", 0);
        dueNotDone("a", "wrap 0 0 999;", 0);
        due("a", "put 001 098;", 1, "ab");
        dueError("want 1000;", 5);
        dueError("erase 0 0000;", 8);
    }

    @Says(at = "Terms", words = "The statements are done in order")
    static void statementsInOrder() {
        due("", "put 0 97; put 1 98; put 2 99; swap 0 2; erase 1 2; wrap 0 1 1;", 6, "[c]a");
        due("ab", "erase 0 1; put 1 120; erase 0 1;", 3, "x");
        dueNotDone("ab", "put 2 40; erase 0 3; swap 0 0;", 2);
        due("ab", "put 2 40; erase 0 3; put 0 40;", 3, "(");
    }

    @Says(at = "Terms", words = "if one cannot be done (a place, a range, a kind or a value that there is not, "
        + "more than 240 bytes, another number wanted) none of them is done")
    static void noneIsDone() {
        String ahead = "put 0 40; erase 1 2; swap 0 1; wrap 0 1 1; repair; ";
        for (String last : new String[] {"put 9 40;", "swap 9 0;", "erase 1 0;", "erase 0 9;", "wrap 1 0 0;", "wrap 0 9 0;",
            "wrap 0 0 2;", "put 0 9;", "put 0 127;", "want 7;"}) {
            dueNotDone("a(b]", ahead + last, 5);
        }
        dueNotDone("x".repeat(237), ahead + "put 0 40; put 0 40; put 0 40;", 7);
        BracketHall hall = Check.holding(KINDS, "a(b]");
        hall.mark(2);
        hall.saveSnapshot(0);
        hall.setColours(5);
        String seen = Whole.seen(hall);
        Check.due("not done", Check.script(hall, ahead + "want 9;"), -25);
        Check.dueText("all that is seen", Whole.seen(hall), seen);
        Check.due("first undo", hall.undo(), 1);
        Check.due("second undo", hall.undo(), 0);
        Check.due("the snapshot", hall.restoreSnapshot(0), 4);
    }

    @Says(at = "Terms", words = "A script without statements can be done, too.")
    static void withoutStatements() {
        due("a", "", 0, "a");
        due("a", " \n ", 0, "a");
        BracketHall hall = Check.holding("a");
        Check.due("no bytes of a buffer", Check.feed(hall, "bad"), 3);
        Check.due("script(0)", hall.script(0), 0);
        Check.due("it is a change", hall.size(9), 1);
        Check.due("undo", hall.undo(), 0);
    }

    // ---- Promise 33

    @Says(at = "Promise 33", words = "Parses the first length bytes of the input buffer as a script and does it.")
    static void parsesTheFirstBytes() {
        String script = "want 0;put 0 40;;bad";
        int[] lengths = {0, 6, 7, 9, 15, 16, 17, 20};
        int[] answers = {0, -11, 1, -11, -11, 2, -11, -11};
        int[] positions = {-1, 6, -1, 7, 15, -1, 16, 16};
        for (int i = 0; i < lengths.length; i++) {
            BracketHall hall = new BracketHall();
            Check.feed(hall, script);
            Check.due("script(" + lengths[i] + ")", hall.script(lengths[i]), answers[i]);
            Check.due("position of script(" + lengths[i] + ")", hall.errorPosition(), positions[i]);
            Check.due("text of script(" + lengths[i] + ")", hall.size(0), lengths[i] == 16 ? 1 : 0);
        }
    }

    @Says(at = "Promise 33", words = "The buffer is empty afterwards, also after an error.")
    static void scriptEmptiesTheBuffer() {
        for (String script : new String[] {"", "want 0;", "want 0; bad", "want 3;", "put 0 9;"}) {
            BracketHall hall = new BracketHall();
            Check.script(hall, script);
            Check.due("bytes in the buffer behind " + script, Whole.buffered(hall), 0);
        }
        BracketHall hall = Whole.hall();
        hall.script(0);
        Check.due("bytes in the buffer behind script(0)", Whole.buffered(hall), 0);
        Check.due("a script that cannot be done", Whole.hall().script(29), -22);
        BracketHall refused = Whole.hall();
        refused.script(29);
        Check.due("bytes in the buffer", Whole.buffered(refused), 0);
        Check.dueText("nothing else", Whole.all(refused), Whole.all(Whole.hall()).replace(" error 12 ", " error -1 "));
        BracketHall wrong = Whole.hall();
        Check.due("an error", wrong.script(40), -11);
        Check.due("bytes in the buffer", Whole.buffered(wrong), 0);
        Check.dueText("nothing else", Whole.all(wrong), Whole.all(Whole.hall()).replace(" error 12 ", " error 30 "));
    }

    @Says(at = "Promise 33", words = "`length`: 0 to the length of the buffer")
    static void scriptLengths() {
        BracketHall hall = new BracketHall();
        Check.due("script(0) of an empty buffer", hall.script(0), 0);
        Check.feed(hall, "want 0;");
        Check.due("script(20), with spaces", hall.script(20), 1);
        Check.due("script of 600 bytes", Check.script(hall, "want0;".repeat(100)), 100);
        Check.due("script of 600 spaces", Check.script(hall, " ".repeat(600)), 0);
        Check.due("script of 75 puts", Check.script(hall, "put0 40;".repeat(75)), 75);
        Check.due("75 bytes", hall.size(0), 75);
        Check.due("script of 85 repairs", Check.script(hall, "repair;".repeat(85)), 85);
    }

    @Says(at = "Promise 33", words = "Returns the number of statements; -10 minus the code of an error; "
        + "-20 minus the index of the statement that cannot be done, from 0.")
    static void scriptAnswers() {
        Check.due("none", Check.script(new BracketHall(), ""), 0);
        for (int n = 1; n <= 85; n++) {
            Check.due(n + " statements", Check.script(new BracketHall(), "want 0;".repeat(n)), n);
            String notDone = "want 0;".repeat(n - 1) + "want 1;";
            Check.due("the last one of " + n, Check.script(new BracketHall(), notDone), -19 - n);
        }
        Check.due("the 100th", Check.script(new BracketHall(), "want0;".repeat(99) + "want1;"), -119);
        Check.due("the first of two", Check.script(new BracketHall(), "want 1; want 2;"), -20);
        Check.due("an error", Check.script(new BracketHall(), "want"), -11);
        Check.due("an error behind what cannot be done", Check.script(new BracketHall(), "want 1; want"), -11);
    }

    @Says(at = "Promise 33", words = "Throws `IllegalArgumentException` if length is out of range")
    static void scriptOutOfRange() {
        for (int length : Whole.outside(0, Whole.INPUT.length())) {
            Whole.dueNoArgument("script(" + length + ")", h -> h.script(length));
        }
    }
}
