/** Promises 24 to 32: the changes but for scripts. */
public final class ChangesTest {
    private static final String KINDS = "kinds () [];";
    private static final String SIGNS = "kinds () []; quote \" escape \\; note #;";

    public static void main(String[] args) {
        knownAnew();
        insert();
        insertRefusals();
        erase();
        wrap();
        unwrap();
        repair();
        repairOfLongTexts();
        mark();
        unmark();
        setColours();
        setCosts();
        Check.finish("ChangesTest");
    }

    private static BracketHall marked(String setup, String text, int... places) {
        BracketHall hall = Check.holding(setup, text);
        for (int place : places) {
            hall.mark(place);
        }
        return hall;
    }

    private static void dueChanges(String call, BracketHall hall, int changes) {
        Check.due(call + ": number of changes", hall.size(9), changes);
    }

    /** What was known ahead of a change is not what is answered behind it. */
    private static void knownAnew() {
        BracketHall hall = Check.holding("kinds () [];", "(a]");
        dueKnown(hall, "load", "! . !", 4);
        Check.insert(hall, 3, ")");
        dueKnown(hall, "insert", "0 . ! 0", 2);
        hall.erase(2, 3);
        dueKnown(hall, "erase", "0 . 0", 0);
        hall.wrap(0, 1, 1);
        dueKnown(hall, "wrap", "0 ! 0 . !", 4);
        hall.unwrap(2);
        dueKnown(hall, "unwrap", "0 . 0", 0);
        Check.insert(hall, 3, "(");
        dueKnown(hall, "insert at the end", "0 . 0 !", 2);
        hall.repair();
        dueKnown(hall, "repair", "0 . 0", 0);
        hall.undo();
        dueKnown(hall, "undo", "0 . 0 !", 2);
        hall.saveSnapshot(0);
        Check.script(hall, "put 0 40;");
        dueKnown(hall, "put", "! 0 . 0 !", 4);
        Check.script(hall, "swap 0 3;");
        dueKnown(hall, "swap", "! ! . ! !", 8);
        Check.script(hall, "wrap 0 0 0;");
        dueKnown(hall, "wrap in a script", "0 0 ! ! . ! !", 8);
        Check.due("33 not done", Check.script(hall, "erase 0 2; put 0 91; want 5; want 4;"), -23);
        dueKnown(hall, "a script not done", "0 0 ! ! . ! !", 8);
        Check.due("33 repair not done", Check.script(hall, "want 4; repair; want 0; want 1;"), -23);
        dueKnown(hall, "a repair not done", "0 0 ! ! . ! !", 8);
        hall.restoreSnapshot(0);
        dueKnown(hall, "restoreSnapshot", "0 . 0 !", 2);
        Check.script(hall, "erase 0 1;");
        dueKnown(hall, "erase in a script", ". ! !", 4);
        Check.script(hall, "repair;");
        dueKnown(hall, "repair in a script", ".", 0);
        Check.setup(hall, "kinds [];");
        dueKnown(hall, "setup", "", 0);
    }

    private static void dueKnown(BracketHall hall, String change, String report, int cost) {
        Check.dueText("report behind " + change, Check.reportOf(hall).replaceAll("(?<=.)(?=.)", " "), report);
        Check.due("cost behind " + change, hall.repairCost(), cost);
        Check.due("lone ones behind " + change, hall.size(3), report.length() - report.replace("!", "").length());
    }

    private static void insert() {
        BracketHall hall = marked(KINDS, "abc", 0, 1, 2, 3);
        Check.due("24 insert", Check.insert(hall, 1, "(\n"), 5);
        Check.dueText("24 text", Check.textOf(hall), "a(\nbc");
        Check.dueText("24 marks", Check.marksOf(hall), "0 3 4 5");
        dueChanges("24", hall, 5);
        Check.due("24 at the end", Check.insert(hall, 5, ")"), 6);
        Check.dueText("24 text", Check.textOf(hall), "a(\nbc)");
        Check.dueText("24 marks", Check.marksOf(hall), "0 3 4 6");
        Check.due("24 at the start", Check.insert(hall, 0, "~"), 7);
        Check.dueText("24 marks", Check.marksOf(hall), "1 4 5 7");
        Check.due("24 pairs anew", hall.size(2), 1);
        Check.due("24 nothing", hall.insert(3, 0), 7);
        dueChanges("24 nothing", hall, 8);
        Check.feed(hall, "xyz");
        Check.due("24 nothing, buffer emptied", hall.insert(0, 0), 7);
        Check.dueNoArgument("24 buffer emptied", () -> hall.insert(0, 1));
        dueChanges("24 exception", hall, 9);
        Check.feed(hall, "xyz");
        Check.dueNoPlace("24 place -1", () -> hall.insert(-1, 1));
        Check.dueNoPlace("24 place 8", () -> hall.insert(8, 1));
        Check.dueNoPlace("24 place is checked first", () -> hall.insert(8, -1));
        Check.dueNoArgument("24 length -1", () -> hall.insert(7, -1));
        Check.dueNoArgument("24 length 21", () -> hall.insert(7, 21));
        dueChanges("24 exceptions", hall, 9);
        Check.due("24 buffer stays behind exceptions", hall.insert(7, 3), 10);
        Check.dueText("24 text", Check.textOf(hall), "~a(\nbc)xyz");
    }

    private static void insertRefusals() {
        BracketHall hall = marked(KINDS, "x".repeat(238), 5);
        Check.due("24 too long", Check.insert(hall, 0, "abc"), -2);
        Check.dueNoArgument("24 buffer emptied by a refusal", () -> hall.insert(0, 1));
        Check.due("24 too long and bad", Check.insert(hall, 0, "a\tb"), -2);
        Check.due("24 bad byte", Check.insert(hall, 0, "a\t"), -3);
        Check.dueNoArgument("24 buffer emptied by a refusal", () -> hall.insert(0, 1));
        Check.due("24 bad 127", Check.insert(hall, 0, "" + (char) 127), -3);
        dueChanges("24 refusals", hall, 1);
        Check.due("24 refusals leave the text", hall.size(0), 238);
        Check.due("24 refusals leave the marks", hall.markAt(0), 5);
        Check.due("24 up to 240", Check.insert(hall, 0, "ab"), 240);
        Check.due("24 beyond 240", Check.insert(hall, 0, "a"), -2);
        Check.due("24 none into 240", hall.insert(240, 0), 240);
        Check.due("24 600 bytes", Check.insert(hall, 0, "a".repeat(600)), -2);
        BracketHall whole = new BracketHall();
        Check.due("24 240 at once", Check.insert(whole, 0, "(".repeat(240)), 240);
        Check.due("24 undo", whole.undo(), 0);
        Check.due("24 undone", whole.size(0), 0);
    }

    private static void erase() {
        BracketHall hall = marked(KINDS, "a(bc)d", 0, 1, 2, 3, 4, 5, 6);
        Check.due("25 erase", hall.erase(1, 4), 3);
        Check.dueText("25 text", Check.textOf(hall), "a)d");
        Check.dueText("25 marks", Check.marksOf(hall), "0 1 1 1 1 2 3");
        Check.due("25 pairs anew", hall.size(3), 1);
        dueChanges("25", hall, 8);
        Check.due("25 nothing", hall.erase(2, 2), 3);
        Check.dueText("25 marks", Check.marksOf(hall), "0 1 1 1 1 2 3");
        dueChanges("25 nothing", hall, 9);
        Check.due("25 nothing at the end", hall.erase(3, 3), 3);
        Check.dueNoPlace("25 from -1", () -> hall.erase(-1, 2));
        Check.dueNoPlace("25 to 4", () -> hall.erase(0, 4));
        Check.dueNoPlace("25 from behind to", () -> hall.erase(2, 1));
        Check.dueNoPlace("25 from and to behind the end", () -> hall.erase(4, 4));
        dueChanges("25 exceptions", hall, 10);
        Check.due("25 all", hall.erase(0, 3), 0);
        Check.dueText("25 marks", Check.marksOf(hall), "0 0 0 0 0 0 0");
        Check.due("25 empty text", hall.erase(0, 0), 0);
        BracketHall behind = marked(KINDS, "abcdef", 6, 5, 4, 3);
        Check.due("25 first half", behind.erase(0, 4), 2);
        Check.dueText("25 marks behind", Check.marksOf(behind), "2 1 0 0");
    }

    private static void wrap() {
        BracketHall hall = marked(KINDS, "abcd", 0, 1, 2, 3, 4);
        Check.due("26 wrap", hall.wrap(1, 3, 1), 6);
        Check.dueText("26 text", Check.textOf(hall), "a[bc]d");
        Check.dueText("26 marks", Check.marksOf(hall), "0 2 3 5 6");
        Check.due("26 pairs anew", hall.look(1, 3), 4);
        Check.due("26 nothing wrapped", hall.wrap(2, 2, 0), 8);
        Check.dueText("26 text", Check.textOf(hall), "a[()bc]d");
        Check.dueText("26 marks", Check.marksOf(hall), "0 4 5 7 8");
        dueChanges("26", hall, 7);
        Check.dueNoPlace("26 from -1", () -> hall.wrap(-1, 2, 0));
        Check.dueNoPlace("26 to 9", () -> hall.wrap(0, 9, 0));
        Check.dueNoPlace("26 from behind to", () -> hall.wrap(2, 1, 0));
        Check.dueNoPlace("26 kind -1", () -> hall.wrap(0, 1, -1));
        Check.dueNoPlace("26 kind 2", () -> hall.wrap(0, 1, 2));
        dueChanges("26 exceptions", hall, 7);
        BracketHall full = marked(KINDS, "x".repeat(239), 3);
        Check.due("26 too long", full.wrap(0, 239, 0), -2);
        Check.dueNoPlace("26 kind is checked ahead of the length", () -> full.wrap(0, 1, 2));
        dueChanges("26 refusal", full, 1);
        Check.due("26 a refusal leaves the marks", full.markAt(0), 3);
        full.erase(0, 1);
        Check.due("26 up to 240", full.wrap(0, 238, 0), 240);
        Check.due("26 around all", full.look(0, 3), 239);
    }

    private static void unwrap() {
        BracketHall hall = marked(KINDS, "a[bc]d", 0, 1, 2, 4, 5, 6);
        Check.due("27 by the opening one", hall.unwrap(1), 4);
        Check.dueText("27 text", Check.textOf(hall), "abcd");
        Check.dueText("27 marks", Check.marksOf(hall), "0 1 1 3 3 4");
        dueChanges("27", hall, 7);
        hall.undo();
        Check.due("27 by the closing one", hall.unwrap(4), 4);
        Check.dueText("27 text", Check.textOf(hall), "abcd");
        Check.dueNoElement("27 no bracket", () -> hall.unwrap(0));
        Check.dueNoPlace("27 place -1", () -> hall.unwrap(-1));
        Check.dueNoPlace("27 place 4", () -> hall.unwrap(4));
        BracketHall lone = Check.holding("x)(");
        Check.dueNoElement("27 no partner", () -> lone.unwrap(1));
        dueChanges("27 exceptions", lone, 0);
        BracketHall strung = Check.holding(SIGNS, "(\"()\")");
        Check.dueNoElement("27 hidden", () -> strung.unwrap(2));
        Check.due("27 around a string", strung.unwrap(0), 4);
        BracketHall inner = Check.holding("(())");
        Check.due("27 the outer one", inner.unwrap(0), 2);
        Check.due("27 the inner one stays", inner.size(2), 1);
    }

    private static void repair() {
        BracketHall dropped = marked(KINDS, ")a(b]", 0, 1, 2, 3, 4, 5);
        Check.due("28 drop", dropped.repair(), 6);
        Check.dueText("28 text", Check.textOf(dropped), "ab");
        Check.dueText("28 marks", Check.marksOf(dropped), "0 0 1 1 2 2");
        dueChanges("28", dropped, 7);
        Check.due("28 nothing to do", dropped.repair(), 0);
        dueChanges("28 nothing to do", dropped, 8);
        BracketHall given = marked(KINDS + "costs 9 3 9;", "a]b(c", 0, 1, 2, 3, 4, 5);
        Check.due("28 give", given.repair(), 6);
        Check.dueText("28 text", Check.textOf(given), "a[]b()c");
        Check.dueText("28 marks", Check.marksOf(given), "0 2 3 4 6 7");
        BracketHall changed = marked(KINDS + "costs 9 9 1;", "(a]", 0, 2, 3);
        Check.due("28 change", changed.repair(), 1);
        Check.dueText("28 text", Check.textOf(changed), "(a)");
        Check.dueText("28 marks", Check.marksOf(changed), "0 2 3");
        Check.due("28 all match", changed.size(3), 0);
        Check.due("28 undo", changed.undo(), 3);
        Check.dueText("28 undone", Check.textOf(changed), "(a]");
        BracketHall strung = Check.holding(SIGNS, "(\"(\"#(\n");
        Check.due("28 hidden ones stay", strung.repair(), 2);
        Check.dueText("28 text", Check.textOf(strung), "\"(\"#(\n");
        Check.due("28 empty", new BracketHall().repair(), 0);
    }

    private static void repairOfLongTexts() {
        BracketHall full = marked("kinds (); costs 9 3 9;", "(" + "x".repeat(239), 1);
        Check.due("28 too long", full.repair(), -2);
        dueChanges("28 refusal", full, 1);
        Check.due("28 a refusal leaves the text", full.size(3), 1);
        Check.due("28 a refusal leaves the marks", full.markAt(0), 1);
        full.erase(239, 240);
        Check.due("28 up to 240", full.repair(), 3);
        Check.due("28 240 bytes", full.size(0), 240);
        BracketHall most = Check.holding("kinds (); costs 9 3 9;", "(".repeat(121));
        Check.due("28 242 bytes", most.repair(), -2);
        most.erase(0, 1);
        Check.due("28 240 bytes by giving", most.repair(), 360);
        Check.dueText("28 text", Check.textOf(most), "()".repeat(120));
        BracketHall both = Check.holding("kinds () []; costs 9 3 1;", "(](" + "x".repeat(237));
        Check.due("28 a change makes no room", both.repair(), -2);
        Check.dueText("28 a refusal leaves the steps", Check.stepsOf(both), "C1:0 G2:0");
        BracketHall drop = Check.holding("(".repeat(240));
        Check.due("28 all dropped", drop.repair(), 480);
        Check.due("28 nothing left", drop.size(0), 0);
        BracketHall change = Check.holding("kinds () []; costs 9 9 1;", "(".repeat(120) + "]".repeat(120));
        Check.due("28 all changed", change.repair(), 120);
        Check.due("28 as long as before", change.size(0), 240);
        Check.due("28 all of one kind", change.count(0, 2), 120);
    }

    private static void mark() {
        BracketHall hall = Check.holding("ab");
        Check.due("29 first", hall.mark(0), 0);
        Check.due("29 at the end", hall.mark(2), 1);
        Check.dueNoPlace("29 place -1", () -> hall.mark(-1));
        Check.dueNoPlace("29 place 3", () -> hall.mark(3));
        for (int mark = 2; mark < 8; mark++) {
            Check.due("29 same place", hall.mark(1), mark);
        }
        dueChanges("29", hall, 8);
        Check.due("29 ninth", hall.mark(1), -2);
        Check.dueNoPlace("29 place is checked ahead of the number", () -> hall.mark(3));
        dueChanges("29 refusal", hall, 8);
        Check.dueText("29 marks", Check.marksOf(hall), "0 2 1 1 1 1 1 1");
    }

    private static void unmark() {
        BracketHall hall = marked(KINDS, "abcdefgh", 7, 6, 5, 4, 3, 2, 1, 0);
        Check.due("30 in between", hall.unmark(2), 5);
        Check.dueText("30 marks", Check.marksOf(hall), "7 6 4 3 2 1 0");
        Check.due("30 first", hall.unmark(0), 7);
        Check.due("30 last", hall.unmark(5), 0);
        Check.dueText("30 marks", Check.marksOf(hall), "6 4 3 2 1");
        dueChanges("30", hall, 10);
        Check.dueNoPlace("30 mark -1", () -> hall.unmark(-1));
        Check.dueNoPlace("30 mark 5", () -> hall.unmark(5));
        hall.undo();
        Check.dueText("30 undone", Check.marksOf(hall), "6 4 3 2 1 0");
        Check.due("30 eighth", marked(KINDS, "a", 0, 0, 0, 0, 0, 0, 0, 1).unmark(7), 1);
    }

    private static void setColours() {
        BracketHall hall = Check.holding("((()))");
        Check.due("31 previous", hall.setColours(9), 3);
        Check.due("31 previous", hall.setColours(1), 9);
        Check.due("31 colours", hall.size(5), 1);
        Check.due("31 colour", hall.look(2, 5), 0);
        Check.due("31 same", hall.setColours(1), 1);
        dueChanges("31", hall, 3);
        Check.dueNoArgument("31 colours 0", () -> hall.setColours(0));
        Check.dueNoArgument("31 colours 10", () -> hall.setColours(10));
        Check.dueNoArgument("31 least colours", () -> hall.setColours(Integer.MIN_VALUE));
        dueChanges("31 exceptions", hall, 3);
        hall.undo();
        hall.undo();
        Check.due("31 undone", hall.size(5), 9);
        Check.due("31 undone colour", hall.look(2, 5), 2);
    }

    private static void setCosts() {
        BracketHall hall = Check.holding(KINDS, "(])");
        Check.due("32 cost then", hall.setCosts(99, 98, 97), 98);
        Check.due("32 drop", hall.size(11), 99);
        Check.due("32 give", hall.size(12), 98);
        Check.due("32 change", hall.size(13), 97);
        Check.dueText("32 steps then", Check.stepsOf(hall), "G1:1");
        Check.due("32 least", hall.setCosts(1, 1, 1), 1);
        Check.dueText("32 steps then", Check.stepsOf(hall), "D1:1");
        dueChanges("32", hall, 2);
        int[][] wrong = {{0, 1, 1}, {1, 0, 1}, {1, 1, 0}, {100, 1, 1}, {1, 100, 1}, {1, 1, 100}, {-1, 1, 1}};
        for (int[] costs : wrong) {
            Check.dueNoArgument("32 out of range", () -> hall.setCosts(costs[0], costs[1], costs[2]));
        }
        dueChanges("32 exceptions", hall, 2);
        Check.due("32 exceptions change nothing", hall.size(11), 1);
        hall.undo();
        Check.due("32 undone", hall.repairCost(), 98);
        hall.undo();
        Check.due("32 undone", hall.size(13), 4);
        Check.due("32 undone", hall.repairCost(), 2);
    }
}
