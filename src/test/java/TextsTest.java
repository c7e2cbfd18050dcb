/** Promises 1 to 6: a new object, the input buffer, setups, texts and counts. */
public final class TextsTest {
    private static final String THREE = "kinds () [] {}; quote \" escape \\; note #; colours 5; costs 7 8 9;";

    public static void main(String[] args) {
        newObject();
        append();
        setup();
        setupBeginsAnew();
        setupErrors();
        setupErrorsOfEachToken();
        setupErrorChangesNothing();
        load();
        errorPosition();
        size();
        Check.finish("TextsTest");
    }

    private static void newObject() {
        BracketHall hall = new BracketHall();
        int[] counts = {0, 0, 0, 0, 1, 3, -1, 1, 0, 0, 0, 2, 3, 4};
        for (int what = 0; what < counts.length; what++) {
            Check.due("1 size(" + what + ")", hall.size(what), counts[what]);
        }
        Check.dueNoArgument("1 empty buffer", () -> hall.load(1));
        Check.due("1 report", hall.reportByte(0), -1);
        Check.due("1 errorPosition", hall.errorPosition(), -1);
        Check.due("1 undo", hall.undo(), -1);
        Check.dueNoState("1 slot 0", () -> hall.restoreSnapshot(0));
        Check.dueNoState("1 slot 1", () -> hall.restoreSnapshot(1));
        Check.due("1 brackets", Check.load(hall, "()[]{}<>\"(\\#("), 4);
        Check.due("1 hidden bytes", hall.size(10), 0);
        Check.due("NONE", BracketHall.NONE, -1);
    }

    private static void append() {
        BracketHall hall = new BracketHall();
        Check.due("2 append", hall.append(0x41424344, 0x45464748, 0x494a4b4c, 0x4d4e4f50, 0x51525354), 20);
        Check.due("2 insert", hall.insert(0, 20), 20);
        Check.dueText("2 bytes in order", Check.textOf(hall), "ABCDEFGHIJKLMNOPQRST");
        for (int n = 1; n <= 30; n++) {
            Check.due("2 append " + n, hall.append(0x20202020 + n, 0x20202020, 0x20202020, 0x20202020, -1), 20 * n);
        }
        Check.due("2 append beyond 600", hall.append(1, 2, 3, 4, 5), -1);
        Check.due("2 append beyond 600 again", hall.append(1, 2, 3, 4, 5), -1);
        Check.dueNoArgument("2 nothing appended", () -> hall.load(601));
        Check.due("2 bytes above 127", hall.load(20), -3);
        Check.due("2 append behind a load", hall.append(0x28282828, 0x29292929, 0, 0, 0), 20);
        Check.due("2 load", hall.load(8), 8);
    }

    private static void setup() {
        BracketHall hall = new BracketHall();
        Check.due("3 setup", Check.setup(hall, THREE), 0);
        Check.due("3 kinds", hall.size(4), 3);
        Check.due("3 colours", hall.size(5), 5);
        Check.due("3 drop", hall.size(11), 7);
        Check.due("3 give", hall.size(12), 8);
        Check.due("3 change", hall.size(13), 9);
        Check.load(hall, "{\"(\\\"[\"]#(\n)");
        Check.dueText("3 signs", Check.looks(hall, 1), "2 -1 -1 -1 -1 -1 -1 1 -1 -1 -1 0");
        Check.dueText("3 hidden", Check.looks(hall, 6), "0 1 1 1 1 1 1 0 2 2 0 0");
        Check.dueNoArgument("3 length below 0", () -> hall.setup(-1));
        Check.dueNoArgument("3 length above the buffer", () -> hall.setup(1));
        Check.due("3 tight", Check.setup(hall, "kinds() [] AB <>;"), 0);
        Check.due("3 four kinds", hall.size(4), 4);
        Check.load(hall, "A(B<)>[]");
        Check.dueText("3 capital letters", Check.looks(hall, 1), "2 0 2 3 0 3 1 1");
        Check.due("3 no spaces", Check.setup(hall, "kinds();quote'escape!;note~;colours9;costs99 1 099;"), 0);
        Check.due("3 colours 9", hall.size(5), 9);
        Check.due("3 costs 99", hall.size(11), 99);
        Check.due("3 costs 1", hall.size(12), 1);
        Check.due("3 costs 099", hall.size(13), 99);
        Check.due("3 line feeds", Check.setup(hall, "\n\nkinds\n{}\n;\n note\n#\n;\n"), 0);
        Check.due("3 several colours", Check.setup(hall, "kinds (); colours 4; costs 1 2 3; colours 6; costs 5 4 3;"), 0);
        Check.due("3 last colours", hall.size(5), 6);
        Check.due("3 last drop", hall.size(11), 5);
        Check.due("3 last change", hall.size(13), 3);
        Check.due("3 note ahead of quote", Check.setup(hall, "kinds (); note #; quote \";"), 0);
        Check.due("3 signs beside the letters and digits", Check.setup(hall, "kinds !~ /: `{ @[; note <; quote _;"), 0);
        Check.load(hall, "!/`@[{:~<_");
        Check.dueText("3 such signs", Check.looks(hall, 1), "0 1 2 3 3 2 1 0 -1 -1");
        Check.dueText("3 such note and quote", Check.looks(hall, 6), "0 0 0 0 0 0 0 0 2 2");
        Check.due("3 shorter length", Check.feed(hall, "kinds [];;"), 10);
        Check.due("3 first bytes only", hall.setup(9), 0);
        Check.dueNoArgument("3 buffer emptied", () -> hall.setup(1));
    }

    private static void setupBeginsAnew() {
        BracketHall hall = Check.holding(THREE, "(a)");
        hall.mark(1);
        hall.setColours(2);
        hall.setCosts(3, 3, 3);
        hall.saveSnapshot(0);
        hall.saveSnapshot(1);
        hall.report();
        Check.due("3 setup", Check.setup(hall, "kinds <>;"), 0);
        int[] counts = {0, 0, 0, 0, 1, 3, -1, 1, 0, 0, 0, 2, 3, 4};
        for (int what = 0; what < counts.length; what++) {
            Check.due("3 anew size(" + what + ")", hall.size(what), counts[what]);
        }
        Check.due("3 undo cleared", hall.undo(), -1);
        Check.dueNoState("3 slot 0 emptied", () -> hall.restoreSnapshot(0));
        Check.dueNoState("3 slot 1 emptied", () -> hall.restoreSnapshot(1));
        Check.due("3 the report stays", hall.reportByte(2), '0');
        Check.load(hall, "<\"<#<(");
        Check.due("3 quote, escape and note gone", hall.size(1), 3);
    }

    private static void setupErrors() {
        error("", 1, 0);
        error("  \n", 1, 3);
        error("kind ();", 1, 0);
        error("kinds", 1, 5);
        error("kinds ", 1, 6);
        error("kinds ;", 1, 6);
        error("kinds (;", 1, 6);
        error("kinds () (;", 1, 9);
        error("kinds ()[];", 1, 6);
        error("kinds () []", 1, 11);
        error("kinds () [] quote", 1, 12);
        error("kinds (( ;", 3, 6);
        error("kinds () (];", 3, 9);
        error("kinds () [);", 3, 9);
        error("kinds () [] {} <> AB;", 4, 18);
        error("kinds () [] {} <> A;", 1, 18);
        error("kinds () [] {} <> A(;", 3, 18);
        error("kinds () [] {} <> AA;", 3, 18);
        error("kinds (); kinds [];", 1, 10);
        error("kinds ();;", 1, 9);
        error("kinds (); quotes \";", 1, 10);
        error("kinds (); quote (;", 3, 16);
        error("kinds (); quote \"\";", 1, 16);
        error("kinds (); quote ;", 1, 16);
        error("kinds (); quote \"", 1, 17);
        error("kinds (); quote \" escape", 1, 24);
        error("kinds (); quote \" escape \";", 3, 25);
        error("kinds (); quote \" escape );", 3, 25);
        error("kinds (); quote \" note #;", 1, 18);
        error("kinds (); quote \"; escape \\;", 1, 19);
        error("kinds (); note \" escape \\;", 1, 17);
        error("kinds (); quote \"; note \";", 3, 24);
        error("kinds (); quote \"; quote \";", 4, 19);
        error("kinds (); note #; quote \"; note ~;", 4, 27);
        error("kinds (); note #; quote #;", 3, 24);
        error("kinds (); quote \" escape \\; note \\;", 3, 33);
    }

    private static void setupErrorsOfEachToken() {
        error("kinds (); colours 0;", 2, 18);
        error("kinds (); colours 10;", 2, 18);
        error("kinds (); colours 999;", 2, 18);
        error("kinds (); colours 1000;", 1, 18);
        error("kinds (); colours 0003;", 1, 18);
        error("kinds (); colours x;", 1, 18);
        error("kinds (); colours;", 1, 17);
        error("kinds (); colours 3 3;", 1, 20);
        error("kinds (); colours 10", 2, 18);
        error("kinds (); colours 3", 1, 19);
        error("kinds (); costs 0 1 1;", 2, 16);
        error("kinds (); costs 1 0 1;", 2, 18);
        error("kinds (); costs 1 1 0;", 2, 20);
        error("kinds (); costs 100 1 1;", 2, 16);
        error("kinds (); costs 1 100 1;", 2, 18);
        error("kinds (); costs 1 1 100;", 2, 20);
        error("kinds (); costs 1 1;", 1, 19);
        error("kinds (); costs 1 1 1 1;", 1, 22);
        error("kinds (); costs 1;", 1, 17);
        error("kinds (); costs;", 1, 15);
        error("kinds (); colours 3; abcdefgh;", 1, 21);
        error("kindskinds ();", 1, 0);
        error("Kinds ();", 1, 0);
        error("kinds () " + (char) 9 + ";", 1, 9);
        error("kinds () " + (char) 127 + ";", 1, 9);
        error("kinds () " + (char) 200 + ";", 1, 9);
        error("kinds ()" + (char) 255 + ";", 1, 8);
        error("kinds (" + (char) 0 + ";", 1, 6);
        error("kinds (); colours 0; " + (char) 1, 2, 18);
        error("12 kinds ();", 1, 0);
        error("binds ();", 1, 0);
        error("kindt ();", 1, 0);
        error("kinds (); xuote \";", 1, 10);
        error("kinds () aa;", 1, 9);
        error("kinds () zz;", 1, 9);
        error("kinds () 00;", 1, 9);
        error("kinds () 99;", 1, 9);
    }

    private static void error(String text, int code, int position) {
        BracketHall hall = Check.holding("x(");
        Check.due("3 setup " + text, Check.setup(hall, text), code);
        Check.due("5 position of the error of " + text, hall.errorPosition(), position);
        Check.dueNoArgument("3 buffer emptied by the error of " + text, () -> hall.setup(1));
        Check.due("3 text behind the error of " + text, hall.size(3), 1);
    }

    private static void setupErrorChangesNothing() {
        BracketHall hall = Check.holding(THREE, "[{}");
        hall.mark(2);
        hall.setColours(4);
        hall.saveSnapshot(1);
        Check.due("3 error", Check.setup(hall, "kinds <>; quote '; note ~; colours 2; costs 1 1 1; colours 0;"), 2);
        Check.due("3 text stays", hall.size(0), 3);
        Check.due("3 kinds stay", hall.size(4), 3);
        Check.due("3 colours stay", hall.size(5), 4);
        Check.due("3 marks stay", hall.markAt(0), 2);
        Check.due("3 changes stay", hall.size(9), 2);
        Check.due("3 costs stay", hall.size(12), 8);
        Check.due("3 snapshots stay", hall.restoreSnapshot(1), 3);
        Check.load(hall, "\"(\"'(~(#(");
        Check.dueText("3 signs stay", Check.looks(hall, 6), "1 1 1 0 0 0 0 2 2");
    }

    private static void load() {
        BracketHall hall = Check.holding(THREE, "(a)");
        hall.mark(1);
        hall.setColours(2);
        hall.setCosts(1, 2, 3);
        hall.saveSnapshot(0);
        Check.due("4 load", Check.load(hall, "{(x)}]"), 5);
        Check.dueText("4 text", Check.textOf(hall), "{(x)}]");
        Check.due("4 no marks", hall.size(8), 0);
        Check.due("4 colours stay", hall.size(5), 2);
        Check.due("4 costs stay", hall.size(13), 3);
        Check.due("4 no change", hall.size(9), 0);
        Check.due("4 undo cleared", hall.undo(), -1);
        Check.dueNoState("4 slots emptied", () -> hall.restoreSnapshot(0));
        Check.dueNoArgument("4 buffer emptied", () -> hall.load(1));
        Check.dueNoArgument("4 length below 0", () -> hall.load(-1));
        Check.feed(hall, "()");
        Check.dueNoArgument("4 length above the buffer", () -> hall.load(21));
        Check.due("4 buffer stays behind an exception", hall.load(2), 2);
        hall.mark(2);
        hall.saveSnapshot(1);
        Check.due("4 bad byte", Check.load(hall, "(\t)"), -3);
        Check.dueNoArgument("4 buffer emptied by a refusal", () -> hall.load(1));
        Check.due("4 too long", Check.load(hall, "(".repeat(241)), -2);
        Check.dueNoArgument("4 buffer emptied by a refusal", () -> hall.load(1));
        Check.due("4 too long and bad", Check.load(hall, "\t".repeat(241)), -2);
        Check.due("4 bad 31", Check.load(hall, "" + (char) 31), -3);
        Check.due("4 bad 127", Check.load(hall, "" + (char) 127), -3);
        Check.due("4 bad 255", Check.load(hall, "" + (char) 255), -3);
        Check.due("4 bad 0", Check.load(hall, "(" + (char) 0), -3);
        Check.due("4 refusals change no text", hall.size(0), 2);
        Check.due("4 refusals change no marks", hall.markAt(0), 2);
        Check.due("4 refusals change no history", hall.size(9), 1);
        Check.due("4 refusals change no slot", hall.restoreSnapshot(1), 2);
        Check.due("4 longest", Check.load(hall, "(".repeat(240)), 240);
        Check.due("4 10, 32 and 126", Check.load(hall, "\n ~"), 0);
        Check.due("4 empty", hall.load(0), 0);
        Check.due("4 empty text", hall.size(0), 0);
    }

    private static void errorPosition() {
        BracketHall hall = new BracketHall();
        Check.setup(hall, "kinds x");
        Check.due("5 error of setup", hall.errorPosition(), 6);
        Check.dueNoArgument("5 exception", () -> hall.setup(-1));
        Check.dueNoArgument("5 exception", () -> hall.script(-1));
        Check.due("5 stays behind an exception", hall.errorPosition(), 6);
        Check.load(hall, "\t");
        Check.due("5 stays behind a load", hall.errorPosition(), 6);
        Check.setup(hall, "kinds ();");
        Check.due("5 no error", hall.errorPosition(), -1);
        Check.script(hall, " bad");
        Check.due("5 error of script", hall.errorPosition(), 1);
        Check.script(hall, "want 1;");
        Check.due("5 a script that cannot be done has no error", hall.errorPosition(), -1);
        Check.script(hall, "want");
        Check.due("5 text ends too early", hall.errorPosition(), 4);
        Check.feed(hall, "want 12;");
        Check.due("5 a number cut off", hall.script(6), -11);
        Check.due("5 text ends within a number", hall.errorPosition(), 6);
        Check.feed(hall, "kindsx ();");
        Check.due("5 a word cut off", hall.setup(5), 1);
        Check.due("5 text ends within a word", hall.errorPosition(), 5);
        Check.script(hall, "");
        Check.due("5 no error of script", hall.errorPosition(), -1);
    }

    private static void size() {
        BracketHall hall = Check.holding(THREE, "([{}])\n\"a\n(\" ]#(\n{}(");
        hall.mark(0);
        hall.mark(3);
        int[] counts = {20, 10, 4, 2, 3, 5, 2, 4, 2, 2, 7, 7, 8, 9};
        for (int what = 0; what < counts.length; what++) {
            Check.due("6 size(" + what + ")", hall.size(what), counts[what]);
        }
        Check.dueNoArgument("6 size(-1)", () -> hall.size(-1));
        Check.dueNoArgument("6 size(14)", () -> hall.size(14));
        Check.load(hall, "]](");
        Check.due("6 no depth without pairs", hall.size(6), -1);
        Check.load(hall, "()");
        Check.due("6 depth 0", hall.size(6), 0);
    }
}
