/** Promise 33: scripts. */
public final class ScriptTest {
    private static final String KINDS = "kinds () [];";

    public static void main(String[] args) {
        statements();
        marks();
        wholeOrNotAtAll();
        notDone();
        errors();
        arguments();
        longest();
        Check.finish("ScriptTest");
    }

    private static BracketHall done(String text, String script, int answer, String then) {
        BracketHall hall = Check.holding(KINDS, text);
        Check.due("33 " + script, Check.script(hall, script), answer);
        Check.dueText("33 text behind " + script, Check.textOf(hall), then);
        Check.due("33 changes behind " + script, hall.size(9), answer < 0 ? 0 : 1);
        return hall;
    }

    private static void statements() {
        done("abc", "", 0, "abc");
        done("abc", "  \n ", 0, "abc");
        done("abcd", "erase 1 3;", 1, "ad");
        done("abcd", "erase 4 4;", 1, "abcd");
        done("ab", "put 1 40;", 1, "a(b");
        done("ab", "put 2 10;put 0 126 ; put 0 32;", 3, " ~ab\n");
        done("abc", "swap 0 2;", 1, "cba");
        done("abc", "swap 1 1;", 1, "abc");
        done("abc", "wrap 0 3 1;", 1, "[abc]");
        done("abc", "wrap 1 1 0;", 1, "a()bc");
        done("(]a", "repair;", 1, "a");
        done("abc", "want 0;", 1, "abc");
        done("(a]", "want 2; erase 0 1; want 1; repair; want 0;", 5, "a");
        done("abc", "put0 40;put 1 41;", 2, "()abc");
        done("abc", "erase 000 001;", 1, "bc");
        done("(a]", "repair;put 1 40;repair;want 0;", 4, "a");
    }

    private static void marks() {
        BracketHall hall = Check.holding(KINDS, "abcd");
        for (int place = 0; place <= 4; place++) {
            hall.mark(place);
        }
        Check.due("33 swap", Check.script(hall, "swap 0 3;"), 1);
        Check.dueText("33 marks stay at a swap", Check.marksOf(hall), "0 1 2 3 4");
        Check.due("33 erase", Check.script(hall, "erase 1 3;"), 1);
        Check.dueText("33 marks behind erase", Check.marksOf(hall), "0 1 1 1 2");
        Check.due("33 put", Check.script(hall, "put 1 40;"), 1);
        Check.dueText("33 marks behind put", Check.marksOf(hall), "0 2 2 2 3");
        Check.due("33 wrap", Check.script(hall, "wrap 2 3 0;"), 1);
        Check.dueText("33 marks behind wrap", Check.marksOf(hall), "0 3 3 3 5");
        Check.due("33 repair", Check.script(hall, "repair;"), 1);
        Check.dueText("33 text", Check.textOf(hall), "d(a)");
        Check.dueText("33 marks behind repair", Check.marksOf(hall), "0 2 2 2 4");
        Check.due("33 undo", hall.undo(), 9);
        Check.dueText("33 undone", Check.textOf(hall), "d((a)");
        Check.dueText("33 marks undone", Check.marksOf(hall), "0 3 3 3 5");
    }

    private static void wholeOrNotAtAll() {
        BracketHall hall = Check.holding(KINDS, "(ab]");
        hall.mark(4);
        Check.due("33 fourth not done", Check.script(hall, "erase 0 1; put 0 91; wrap 0 1 0; want 9; repair;"), -23);
        Check.dueText("33 text stays", Check.textOf(hall), "(ab]");
        Check.dueText("33 marks stay", Check.marksOf(hall), "4");
        Check.due("33 pairs stay", hall.size(3), 2);
        Check.due("33 cost stays", hall.repairCost(), 4);
        Check.due("33 no change", hall.size(9), 1);
        Check.due("33 undo", hall.undo(), 0);
        Check.due("33 error behind statements", Check.script(hall, "erase 0 1; erase 0"), -11);
        Check.dueText("33 an error does nothing", Check.textOf(hall), "(ab]");
        Check.due("33 an error is no change", hall.size(9), 0);
        Check.due("33 an error ahead of what cannot be done", Check.script(hall, "erase 9 9; bad;"), -11);
        Check.due("33 one undo for all", Check.script(hall, "erase 0 1; erase 0 1; erase 0 1;"), 3);
        Check.due("33 undo", hall.undo(), 0);
        Check.dueText("33 undone", Check.textOf(hall), "(ab]");
    }

    private static void notDone() {
        done("abc", "erase 2 1;", -20, "abc");
        done("abc", "erase 0 4;", -20, "abc");
        done("abc", "erase 4 4;", -20, "abc");
        done("abc", "put 4 40;", -20, "abc");
        done("abc", "put 0 9;", -20, "abc");
        done("abc", "put 0 11;", -20, "abc");
        done("abc", "put 0 31;", -20, "abc");
        done("abc", "put 0 127;", -20, "abc");
        done("abc", "put 0 999;", -20, "abc");
        done("abc", "swap 0 3;", -20, "abc");
        done("abc", "swap 3 0;", -20, "abc");
        done("", "swap 0 0;", -20, "");
        done("abc", "wrap 1 0 0;", -20, "abc");
        done("abc", "wrap 0 4 0;", -20, "abc");
        done("abc", "wrap 0 1 2;", -20, "abc");
        done("(bc", "want 0;", -20, "(bc");
        done("(bc", "want 2;", -20, "(bc");
        done("abc", "want 0; want 0; want 1;", -22, "abc");
        String full = "x".repeat(240);
        done(full, "put 0 40;", -20, full);
        done(full, "erase 0 1; wrap 0 0 0;", -21, full);
        done(full, "erase 0 2; wrap 0 0 0; want 0;", 3, "()" + "x".repeat(238));
        BracketHall given = Check.holding("kinds (); costs 9 1 9;", "(" + "x".repeat(239));
        Check.due("33 repair too long", Check.script(given, "want 1; repair;"), -21);
        Check.due("33 repair up to 240", Check.script(given, "erase 239 240; repair;"), 2);
        Check.due("33 240 bytes", given.size(0), 240);
    }

    private static void errors() {
        error("erase", 5);
        error("erase ;", 6);
        error("erase 1;", 7);
        error("erase 1 1", 9);
        error("erase 1 1 1;", 10);
        error("erase 1 1000;", 8);
        error("erase 1 0001;", 8);
        error("put 1 x;", 6);
        error("swap 1 (;", 7);
        error("wrap 0 0;", 8);
        error("wrap 0 0 0 0;", 11);
        error("repair 0;", 7);
        error("repair", 6);
        error("repair repair;", 7);
        error("want;", 4);
        error("want 0;;", 7);
        error(";", 0);
        error(" ()", 1);
        error("12", 0);
        error("want 0; abcdefgh;", 8);
        error("want 0; ABC;", 8);
        error("want 0\t;", 6);
        error("want 0;" + (char) 128, 7);
        error("want 0; want", 12);
        error("want 0; want  ", 14);
        error("kinds ();", 0);
        error("wants 0;", 0);
        error("Want 0;", 0);
    }

    private static void error(String script, int position) {
        BracketHall hall = Check.holding("x(");
        Check.due("33 " + script, Check.script(hall, script), -11);
        Check.due("5 position of the error of " + script, hall.errorPosition(), position);
        Check.dueNoArgument("33 buffer emptied by the error of " + script, () -> hall.script(1));
        Check.due("33 no change by the error of " + script, hall.size(9), 0);
    }

    private static void arguments() {
        BracketHall hall = Check.holding("ab");
        Check.dueNoArgument("33 length -1", () -> hall.script(-1));
        Check.dueNoArgument("33 length 1", () -> hall.script(1));
        Check.feed(hall, "erase 0 1;bad");
        Check.dueNoArgument("33 length 21", () -> hall.script(21));
        Check.due("33 first bytes only", hall.script(10), 1);
        Check.dueText("33 text", Check.textOf(hall), "b");
        Check.dueNoArgument("33 buffer emptied", () -> hall.script(1));
        Check.due("33 none", hall.script(0), 0);
        Check.due("33 none is a change", hall.size(9), 2);
        Check.feed(hall, "want 1;");
        Check.due("33 not done", hall.script(7), -20);
        Check.dueNoArgument("33 buffer emptied by what cannot be done", () -> hall.script(1));
    }

    private static void longest() {
        BracketHall hall = new BracketHall();
        Check.due("33 most statements", Check.script(hall, "want0;".repeat(100)), 100);
        Check.due("33 last not done", Check.script(hall, "want0;".repeat(99) + "want1;"), -119);
        Check.due("33 last with an error", Check.script(hall, "want0;".repeat(99) + "want0"), -11);
        Check.due("5 last with an error", hall.errorPosition(), 599);
        Check.due("33 most puts", Check.script(hall, "put0 40;".repeat(75)), 75);
        Check.due("33 75 bytes", hall.size(3), 75);
    }
}
