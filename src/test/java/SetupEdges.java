/** Setups, their grammar and their errors; promises 3 and 5: setup and errorPosition. */
final class SetupEdges {
    private SetupEdges() {
    }

    /** A setup with this error, by which nothing else changes. */
    static void dueError(String setup, int code, int position) {
        BracketHall hall = Check.holding("(a))");
        Check.due("setup " + setup, Check.setup(hall, setup), code);
        Check.due("position of the error of " + setup, hall.errorPosition(), position);
        Check.due("kinds behind " + setup, hall.size(4), 1);
        Check.due("text behind " + setup, hall.size(0), 4);
    }

    /** A setup without an error. */
    static BracketHall dueRight(String setup) {
        BracketHall hall = new BracketHall();
        Check.due("setup " + setup, Check.setup(hall, setup), 0);
        Check.due("position of no error of " + setup, hall.errorPosition(), -1);
        return hall;
    }

    private static void dueKinds(BracketHall hall, String text, String kinds) {
        Check.load(hall, text);
        Check.dueText("kinds of " + text, Check.looks(hall, 1), kinds);
    }

    private static void dueHidden(BracketHall hall, String text, String hidden) {
        Check.load(hall, text);
        Check.dueText("hidden in " + text, Check.looks(hall, 6), hidden);
    }

    private static void dueCounts(BracketHall hall, int colours, int drop, int give, int change) {
        Check.due("colours", hall.size(5), colours);
        Check.due("DROP", hall.size(11), drop);
        Check.due("GIVE", hall.size(12), give);
        Check.due("CHANGE", hall.size(13), change);
    }

    // ---- KINDS, COLOURS and costs

    @Says(at = "Terms", words = "There are 1 to 4 KINDS of brackets")
    static void oneToFourKinds() {
        dueError("kinds ;", 1, 6);
        Check.due("kinds", dueRight("kinds ();").size(4), 1);
        Check.due("kinds", dueRight("kinds () [];").size(4), 2);
        Check.due("kinds", dueRight("kinds () [] {};").size(4), 3);
        Check.due("kinds", dueRight("kinds () [] {} <>;").size(4), 4);
        dueError("kinds () [] {} <> AB;", 4, 18);
    }

    @Says(at = "Terms", words = "numbered from 0, each with an opening and a closing sign")
    static void kindsFromZero() {
        BracketHall hall = dueRight("kinds >< BA /! ~_;");
        dueKinds(hall, "><BA/!~_()", "0 0 1 1 2 2 3 3 -1 -1");
        Check.dueText("sides", Check.looks(hall, 2), "1 0 1 0 1 0 1 0 -1 -1");
        Check.due("pairs of the last kind", hall.count(3, 2), 1);
        Check.dueNoPlace("kind 4", () -> hall.count(4, 2));
        Check.dueNoPlace("kind -1", () -> hall.count(-1, 2));
    }

    @Says(at = "Terms", words = "There can be a QUOTE, with an ESCAPE or not, and a NOTE sign.")
    static void quoteEscapeNote() {
        String text = "'^'(~(\n'";
        dueHidden(dueRight("kinds ();"), text, "0 0 0 0 0 0 0 0");
        dueHidden(dueRight("kinds (); note ~;"), text, "0 0 0 0 2 2 0 0");
        dueHidden(dueRight("kinds (); quote ';"), text, "1 1 1 0 0 0 0 1");
        dueHidden(dueRight("kinds (); quote ' escape ^;"), text, "1 1 1 1 1 1 1 1");
        dueHidden(dueRight("kinds (); quote '; note ~;"), text, "1 1 1 0 2 2 0 1");
        dueHidden(dueRight("kinds (); note ~; quote ' escape ^;"), "~'\n'^'~'", "2 2 0 1 1 1 1 1");
    }

    @Says(at = "Terms", words = "COLOURS is 1 to 9 (3 at first).")
    static void coloursOneToNine() {
        Check.due("at first", new BracketHall().size(5), 3);
        Check.due("at first in a setup", dueRight("kinds ();").size(5), 3);
        for (int colours = 1; colours <= 9; colours++) {
            Check.due("told", dueRight("kinds (); colours " + colours + ";").size(5), colours);
            BracketHall hall = new BracketHall();
            Check.due("set", hall.setColours(colours), 3);
            Check.due("colours then", hall.size(5), colours);
        }
        dueError("kinds (); colours 0;", 2, 18);
        dueError("kinds (); colours 10;", 2, 18);
    }

    @Says(at = "Terms", words = "DROP, GIVE and CHANGE are the costs of repairs, 1 to 99 each (2, 3 and 4 at first).")
    static void costsOneTo99() {
        dueCounts(new BracketHall(), 3, 2, 3, 4);
        dueCounts(dueRight("kinds ();"), 3, 2, 3, 4);
        dueCounts(dueRight("kinds (); costs 1 99 1;"), 3, 1, 99, 1);
        dueCounts(dueRight("kinds (); costs 99 1 99;"), 3, 99, 1, 99);
        dueError("kinds (); costs 0 1 1;", 2, 16);
        dueError("kinds (); costs 100 1 1;", 2, 16);
        dueError("kinds (); costs 1 0 1;", 2, 18);
        dueError("kinds (); costs 1 100 1;", 2, 18);
        dueError("kinds (); costs 1 1 0;", 2, 20);
        dueError("kinds (); costs 1 1 100;", 2, 20);
    }

    // ---- the grammar

    @Says(at = "Terms", words = "setup = \"kinds\" two { two } \";\"")
    static void grammarOfKinds() {
        dueRight("kinds ();");
        dueRight("kinds () [];");
        dueError("", 1, 0);
        dueError("();", 1, 0);
        dueError("kind ();", 1, 0);
        dueError("kindss ();", 1, 0);
        dueError("jinds ();", 1, 0);
        dueError("kindt ();", 1, 0);
        dueError("quote \"; kinds ();", 1, 0);
        dueError("kinds", 1, 5);
        dueError("kinds;", 1, 5);
        dueError("kinds (;", 1, 6);
        dueError("kinds abc;", 1, 6);
        dueError("kinds 12;", 1, 6);
        dueError("kinds ()", 1, 8);
        dueError("kinds () [", 1, 9);
        dueError("kinds () ab;", 1, 9);
        dueError("kinds () 12;", 1, 9);
        dueError("kinds () [] {} <>", 1, 17);
        dueError("kinds () quote \";", 1, 9);
    }

    @Says(at = "Terms", words = "{ ( \"quote\" one [ \"escape\" one ] | \"note\" one")
    static void grammarOfSigns() {
        dueRight("kinds (); quote \"; note #;");
        dueRight("kinds (); note #; quote \" escape \\;");
        dueError("kinds (); quote", 1, 15);
        dueError("kinds (); quote;", 1, 15);
        dueError("kinds (); quote ab;", 1, 16);
        dueError("kinds (); quote 1;", 1, 16);
        dueError("kinds (); quote \"", 1, 17);
        dueError("kinds (); quote \" #;", 1, 18);
        dueError("kinds (); quote \" escap \\;", 1, 18);
        dueError("kinds (); quote \" fscape \\;", 1, 18);
        dueError("kinds (); ruote \";", 1, 10);
        dueError("kinds (); oote #;", 1, 10);
        dueError("kinds (); quote \" escape", 1, 24);
        dueError("kinds (); quote \" escape;", 1, 24);
        dueError("kinds (); quote \" escape 1;", 1, 25);
        dueError("kinds (); quote \" escape \\", 1, 26);
        dueError("kinds (); quote \" escape \\ escape #;", 1, 27);
        dueError("kinds (); escape \\;", 1, 10);
        dueError("kinds (); note", 1, 14);
        dueError("kinds (); note;", 1, 14);
        dueError("kinds (); note #", 1, 16);
        dueError("kinds (); note # escape \\;", 1, 17);
    }

    @Says(at = "Terms", words = "| \"colours\" number | \"costs\" number number number ) \";\" }")
    static void grammarOfNumbers() {
        dueRight("kinds (); colours 1; costs 1 1 1;");
        dueError("kinds (); colours", 1, 17);
        dueError("kinds (); colours;", 1, 17);
        dueError("kinds (); colours #;", 1, 18);
        dueError("kinds (); colours three;", 1, 18);
        dueError("kinds (); colours 3", 1, 19);
        dueError("kinds (); dolours 3;", 1, 10);
        dueError("kinds (); dosts 1 1 1;", 1, 10);
        dueError("kinds (); colours 3 4;", 1, 20);
        dueError("kinds (); costs;", 1, 15);
        dueError("kinds (); costs 1;", 1, 17);
        dueError("kinds (); costs 1 1;", 1, 19);
        dueError("kinds (); costs 1 1 1", 1, 21);
        dueError("kinds (); costs 1 1 1 1;", 1, 22);
        dueError("kinds (); costs x 1 1;", 1, 16);
        dueError("kinds (); costs 1 x 1;", 1, 18);
        dueError("kinds (); costs 1 1 x;", 1, 20);
        dueError("kinds ();;", 1, 9);
        dueError("kinds (); kinds [];", 1, 10);
        dueError("kinds (); erase 0 0;", 1, 10);
        dueError("kinds (); 5;", 1, 10);
        dueError("kinds (); [];", 1, 10);
    }

    @Says(at = "Terms", words = "two is a run of two signs (the opening and the closing sign of a kind)")
    static void twoIsARunOfTwo() {
        dueKinds(dueRight("kinds )(;"), ")(", "0 0");
        dueError("kinds ( );", 1, 6);
        dueError("kinds (\n);", 1, 6);
        dueError("kinds ()[];", 1, 6);
        dueError("kinds () [ ];", 1, 9);
        dueError("kinds (){;", 1, 6);
    }

    @Says(at = "Terms", words = "one a run of one sign")
    static void oneIsARunOfOne() {
        dueError("kinds (); quote '\";", 1, 16);
        dueError("kinds (); quote \" escape \\/;", 1, 25);
        dueError("kinds (); note ##;", 1, 15);
        dueError("kinds (); note //;", 1, 15);
    }

    @Says(at = "Terms", words = "no sign may be told twice")
    static void noSignTwice() {
        dueError("kinds ((;", 3, 6);
        dueError("kinds () (];", 3, 9);
        dueError("kinds () [(;", 3, 9);
        dueError("kinds () )];", 3, 9);
        dueError("kinds () [);", 3, 9);
        dueError("kinds () [];quote );", 3, 18);
        dueError("kinds (); quote \" escape \";", 3, 25);
        dueError("kinds (); quote \" escape (;", 3, 25);
        dueError("kinds (); quote \"; note \";", 3, 24);
        dueError("kinds (); quote \" escape \\; note \\;", 3, 33);
        dueError("kinds (); note ); ", 3, 15);
        dueError("kinds (); note #; quote #;", 3, 24);
        dueError("kinds (); note #; quote \" escape #;", 3, 33);
    }

    @Says(at = "Terms", words = "A setup has 1 to 4 kinds, at most one quote and one note")
    static void oneQuoteAndOneNote() {
        BracketHall again = dueRight("kinds () [] {} <>; quote \"; note #;");
        Check.due("the same setup once more", Check.setup(again, "kinds () [] {} <>; quote \"; note #;"), 0);
        Check.due("the same setup behind an error", Check.setup(again, "kinds (); quote \"; note #; x"), 1);
        Check.due("the same setup a third time", Check.setup(again, "kinds () [] {} <>; quote \"; note #;"), 0);
        dueError("kinds (); quote \"; quote ';", 4, 19);
        dueError("kinds (); note #; note ~;", 4, 18);
        dueError("kinds (); quote \" escape \\; note #; quote ';", 4, 36);
        dueError("kinds (); note #; quote \" escape \\; note ~;", 4, 36);
        dueError("kinds () [] {} <> AB CD;", 4, 18);
    }

    @Says(at = "Terms", words = "colours and costs (DROP, GIVE, CHANGE) may be told several times, the last one counts")
    static void lastOneCounts() {
        dueCounts(dueRight("kinds (); colours 9; colours 1; colours 5;"), 5, 2, 3, 4);
        dueCounts(dueRight("kinds (); costs 1 2 3; costs 7 8 9; costs 6 5 4;"), 3, 6, 5, 4);
        dueCounts(dueRight("kinds (); costs 1 2 3; colours 7; costs 9 9 9; colours 8;"), 8, 9, 9, 9);
        dueError("kinds (); colours 0; colours 3;", 2, 18);
        dueError("kinds (); colours 3; colours 0;", 2, 29);
    }

    // ---- errors

    @Says(at = "Terms", words = "1: an invalid token, a token that the grammar does not allow at this place, "
        + "or a text that ends too early.")
    static void codeOne() {
        dueError("kinds () \t;", 1, 9);
        dueError("kinds (); abcdefgh;", 1, 10);
        dueError("kinds kinds;", 1, 6);
        dueError("kinds (); quote", 1, 15);
    }

    @Says(at = "Terms", words = "2: a number out of its range.")
    static void codeTwo() {
        dueError("kinds (); colours 000;", 2, 18);
        dueError("kinds (); colours 999;", 2, 18);
        dueError("kinds (); costs 0 0 0;", 2, 16);
        dueError("kinds (); costs 99 99 999;", 2, 22);
    }

    @Says(at = "Terms", words = "3: a sign that was told before (the run at which it is; "
        + "also the same sign twice in a run of two).")
    static void codeThree() {
        dueError("kinds\n\n((;", 3, 7);
        dueError("kinds () {( ;", 3, 9);
        dueError("kinds () {};quote};", 3, 17);
    }

    @Says(at = "Terms", words = "4: a 5th kind; the word quote or note a second time.")
    static void codeFour() {
        dueError("kinds () [] {} <>\nAB;", 4, 18);
        dueError("kinds (); quote \";quote\";", 4, 18);
        dueError("kinds (); note #;note#;", 4, 17);
        dueError("kinds (); quote \"; quote", 4, 19);
        dueError("kinds (); note #; note 12;", 4, 18);
    }

    @Says(at = "Terms", words = "The error with the smallest position is reported.")
    static void smallestPosition() {
        dueError("kinds (); colours 0; \t", 2, 18);
        dueError("kinds () (); colours 0;", 3, 9);
        dueError("kinds () (] x;", 3, 9);
        dueError("kinds () [] {} <> AB CD", 4, 18);
        dueError("kinds (); colours 0", 2, 18);
        dueError("kinds (); costs 0 0;", 2, 16);
        dueError("kinds (); note #; note #", 4, 18);
        dueError("kinds (); quote (", 3, 16);
    }

    @Says(at = "Terms", words = "If several codes apply at one position, the smallest is reported.")
    static void smallestCode() {
        dueError("kinds () [] {} <> A(;", 3, 18);
        dueError("kinds () [] {} <> AA;", 3, 18);
        dueError("kinds () [] {} <> (;", 1, 18);
        dueError("kinds () [] {} <> ABC;", 1, 18);
        dueError("kinds () (;", 1, 9);
        dueError("kinds (); quote ((;", 1, 16);
        dueError("kinds (); note #; quote \" note ~;", 1, 26);
        dueError("kinds (); note # note ~;", 1, 17);
        dueError("kinds (); quote \" quote ';", 1, 18);
        dueError("kinds (); colours 0000;", 1, 18);
    }

    @Says(at = "Terms", words = "The position of an error is the index of the first byte of its token")
    static void positionOfAToken() {
        dueError(" \n 12 ();", 1, 3);
        dueError("kinds(); colours 3;colours10;", 2, 26);
        dueError("kinds();quote\"escape\";", 3, 20);
        dueError("kinds();kinds", 1, 8);
        dueError("kinds();" + (char) 0, 1, 8);
        dueError("kinds();abcdefghijkl", 1, 8);
        dueError("kinds();colours 1234", 1, 16);
    }

    @Says(at = "Terms", words = "if the text ends too early, it is the length of the text")
    static void positionOfTheEnd() {
        dueError("", 1, 0);
        dueError(" \n ", 1, 3);
        dueError("kinds", 1, 5);
        dueError("kinds  ", 1, 7);
        dueError("kinds ()\n\n", 1, 10);
        dueError("kinds (); costs 1 1 ", 1, 20);
        dueError("kinds ();" + " ".repeat(586) + "quote", 1, 600);
    }

    // ---- Promise 3

    @Says(at = "Promise 3", words = "Parses the first length bytes of the input buffer as a setup.")
    static void parsesTheFirstBytes() {
        String setup = "kinds (); colours 98";
        int[] lengths = {7, 8, 9, 12, 17, 19, 20};
        int[] codes = {1, 1, 0, 1, 1, 1, 2};
        int[] positions = {6, 8, -1, 10, 17, 19, 18};
        for (int i = 0; i < lengths.length; i++) {
            BracketHall hall = new BracketHall();
            Check.feed(hall, setup);
            Check.due("setup(" + lengths[i] + ")", hall.setup(lengths[i]), codes[i]);
            Check.due("position", hall.errorPosition(), positions[i]);
        }
    }

    @Says(at = "Promise 3", words = "The buffer is empty afterwards, also after an error, "
        + "by which nothing else changes but the error.")
    static void setupEmptiesTheBuffer() {
        BracketHall right = new BracketHall();
        Check.feed(right, "kinds []; and more than is asked for");
        Check.due("a right one", right.setup(9), 0);
        Check.due("bytes in the buffer", Whole.buffered(right), 0);
        for (String setup : new String[] {"kinds <>; quote '; note ~; colours 2; costs 1 1 1; x",
            "kinds <> ((;", "kinds <>; colours 10;", "kinds <>; note '; note ~;", ""}) {
            BracketHall wrong = Whole.hall();
            wrong.insert(0, 0);
            wrong.undo();
            int code = Check.setup(wrong, setup);
            Check.due("setup " + setup + " is wrong", code > 0 ? 1 : 0, 1);
            Check.due("bytes in the buffer", Whole.buffered(wrong), 0);
            BracketHall same = Whole.hall();
            same.insert(0, 0);
            same.undo();
            String position = " error " + wrong.errorPosition() + " ";
            Check.dueText("what is behind " + setup, Whole.all(wrong), Whole.all(same).replace(" error 12 ", position));
        }
    }

    @Says(at = "Promise 3", words = "`length`: 0 to the length of the buffer")
    static void setupLengths() {
        BracketHall hall = new BracketHall();
        Check.due("setup(0) of an empty buffer", hall.setup(0), 1);
        Check.due("position", hall.errorPosition(), 0);
        Check.feed(hall, "kinds ();");
        Check.due("setup(20), with eleven spaces", hall.setup(20), 0);
        Check.due("setup of 600 bytes", Check.setup(hall, "kinds [];" + " ".repeat(591)), 0);
    }

    @Says(at = "Promise 3", words = "Returns 0 on success; the code of the error.")
    static void setupCodes() {
        dueRight("kinds ();");
        dueError("kinds () ", 1, 9);
        dueError("kinds (); colours 0;", 2, 18);
        dueError("kinds ()();", 1, 6);
        dueError("kinds () ();", 3, 9);
        dueError("kinds () [] {} <> !?;", 4, 18);
    }

    @Says(at = "Promise 3", words = "Throws `IllegalArgumentException` if length is out of range")
    static void setupOutOfRange() {
        for (int length : Whole.outside(0, Whole.INPUT.length())) {
            Whole.dueNoArgument("setup(" + length + ")", h -> h.setup(length));
        }
    }

    @Says(at = "Terms", words = "A successful setup begins with an empty text, no marks, and the COLOURS and costs "
        + "that there are at first where it does not tell them")
    static void setupBeginsAnew() {
        BracketHall hall = Whole.hall();
        hall.insert(0, 0);
        Check.due("setup", Check.setup(hall, "kinds <>;"), 0);
        Check.due("bytes", hall.size(0), 0);
        Check.due("marks", hall.size(8), 0);
        Check.due("kinds", hall.size(4), 1);
        dueCounts(hall, 3, 2, 3, 4);
        dueHidden(hall, "\"#(<\\", "0 0 0 0 0");
        dueKinds(hall, "()[]{}<>", "-1 -1 -1 -1 -1 -1 0 0");
        dueCounts(dueRight("kinds (); colours 7;"), 7, 2, 3, 4);
        dueCounts(dueRight("kinds (); costs 9 8 7;"), 3, 9, 8, 7);
        BracketHall told = dueRight("kinds (); colours 7; costs 9 8 7;");
        Check.setup(told, "kinds ();");
        dueCounts(told, 3, 2, 3, 4);
    }

    // ---- Promise 5

    @Says(at = "Promise 5", words = "Returns the position of the error of the last call of setup or script "
        + "that did not throw an exception.")
    static void lastCallThatDidNotThrow() {
        BracketHall hall = new BracketHall();
        Check.setup(hall, "kinds x");
        Check.due("behind a setup", hall.errorPosition(), 6);
        Check.dueNoArgument("setup(1)", () -> hall.setup(1));
        Check.dueNoArgument("script(-1)", () -> hall.script(-1));
        Check.due("behind exceptions", hall.errorPosition(), 6);
        Check.script(hall, "want 0; want");
        Check.due("behind a script", hall.errorPosition(), 12);
        Check.load(hall, "(\t");
        Check.insert(hall, 0, "\t");
        Check.load(hall, "(");
        hall.repair();
        hall.undo();
        Check.due("behind other calls", hall.errorPosition(), 12);
        Check.setup(hall, "");
        Check.due("behind an empty setup", hall.errorPosition(), 0);
    }

    @Says(at = "Promise 5", words = "Returns the position; NONE if that call had no error or there was none.")
    static void noneWithoutAnError() {
        BracketHall hall = new BracketHall();
        Check.due("at first", hall.errorPosition(), -1);
        Check.dueNoArgument("setup(1)", () -> hall.setup(1));
        Check.due("behind an exception alone", hall.errorPosition(), -1);
        Check.setup(hall, "x");
        Check.setup(hall, "kinds ();");
        Check.due("behind a right setup", hall.errorPosition(), -1);
        Check.script(hall, "x");
        Check.script(hall, "want 0;");
        Check.due("behind a right script", hall.errorPosition(), -1);
        Check.script(hall, "x");
        Check.due("an error again", hall.errorPosition(), 0);
        Check.due("a script that cannot be done", Check.script(hall, "want 1;"), -20);
        Check.due("behind a script that cannot be done", hall.errorPosition(), -1);
    }
}
