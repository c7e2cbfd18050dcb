/** MARKS and reports; promises 21 to 23, 29 and 30: markAt, report, reportByte, mark and unmark. */
final class MarkEdges {
    private MarkEdges() {
    }

    /** A text with a mark at each of these places. */
    static BracketHall marked(String text, int... places) {
        BracketHall hall = Check.holding(text);
        for (int place : places) {
            hall.mark(place);
        }
        return hall;
    }

    static void due(BracketHall hall, String marks) {
        Check.dueText("marks", Check.marksOf(hall), marks);
    }

    // ---- MARKS

    @Says(at = "Terms", words = "There are at most 8 marks, numbered from 0 in the order in which they were set")
    static void eightMarks() {
        BracketHall hall = Check.holding("abc");
        for (int mark = 0; mark < 8; mark++) {
            Check.due("mark " + mark, hall.mark(3 - mark % 4), mark);
            Check.due("marks", hall.size(8), mark + 1);
        }
        Check.due("a ninth mark", hall.mark(0), -2);
        Check.due("marks", hall.size(8), 8);
        due(hall, "3 2 1 0 3 2 1 0");
        Check.due("unmark", hall.unmark(0), 3);
        Check.due("an eighth mark again", hall.mark(3), 7);
        due(hall, "2 1 0 3 2 1 0 3");
    }

    @Says(at = "Terms", words = "each has a place between bytes")
    static void marksBetweenBytes() {
        BracketHall hall = marked("ab", 0, 1, 2);
        due(hall, "0 1 2");
        due(marked("", 0), "0");
        due(marked("x".repeat(240), 0, 239, 240), "0 239 240");
    }

    @Says(at = "Terms", words = "When bytes are put in at a place, all marks at or behind this place move behind by as many")
    static void marksMoveBehind() {
        String[] due = {"2 3 4 5", "0 3 4 5", "0 1 4 5", "0 1 2 5"};
        for (int place = 0; place <= 3; place++) {
            BracketHall hall = marked("abc", 0, 1, 2, 3);
            Check.insert(hall, place, "xy");
            due(hall, due[place]);
        }
        BracketHall none = marked("abc", 0, 1, 2, 3);
        none.insert(1, 0);
        due(none, "0 1 2 3");
        BracketHall most = marked("", 0);
        Check.insert(most, 0, "x".repeat(240));
        due(most, "240");
    }

    @Says(at = "Terms", words = "when bytes are taken out, marks behind these move ahead by as many")
    static void marksMoveAhead() {
        BracketHall hall = marked("abcdef", 6, 5, 4, 0);
        hall.erase(1, 3);
        due(hall, "4 3 2 0");
        hall.erase(0, 1);
        due(hall, "3 2 1 0");
        BracketHall most = marked("x".repeat(240), 240, 239);
        most.erase(0, 238);
        due(most, "2 1");
    }

    @Says(at = "Terms", words = "and marks within or right ahead of them (from the first one's place to the place "
        + "behind the last one) come to the place at which the first one was")
    static void marksWithin() {
        BracketHall hall = marked("abcdef", 0, 1, 2, 3, 4, 5, 6);
        hall.erase(2, 4);
        due(hall, "0 1 2 2 2 3 4");
        BracketHall all = marked("abcdef", 0, 3, 6);
        all.erase(0, 6);
        due(all, "0 0 0");
        BracketHall one = marked("abc", 0, 1, 2, 3);
        one.erase(1, 2);
        due(one, "0 1 1 2");
        BracketHall none = marked("abc", 0, 1, 2, 3);
        none.erase(1, 1);
        due(none, "0 1 2 3");
    }

    // ---- Promise 21

    @Says(at = "Promise 21", words = "Returns the place of a mark.")
    static void markAt() {
        BracketHall hall = marked("abcdefg", 0, 1, 2, 3, 4, 5, 6, 7);
        for (int mark = 0; mark < 8; mark++) {
            Check.due("markAt(" + mark + ")", hall.markAt(mark), mark);
        }
    }

    @Says(at = "Promise 21", words = "Throws `IndexOutOfBoundsException` if there is no such mark")
    static void markAtNoMark() {
        for (int mark : Whole.outside(0, 1)) {
            Whole.dueNoPlace("markAt(" + mark + ")", h -> h.markAt(mark));
        }
        Check.dueNoPlace("without marks", () -> new BracketHall().markAt(0));
        BracketHall most = marked("abcdefg", 0, 1, 2, 3, 4, 5, 6, 7);
        Check.dueNoPlace("a ninth mark", () -> most.markAt(8));
        most.unmark(3);
        Check.dueNoPlace("an eighth mark behind an unmark", () -> most.markAt(7));
    }

    // ---- Promises 22 and 23

    @Says(at = "Promise 22", words = "Writes a text that replaces the one before")
    static void reportReplaces() {
        BracketHall hall = Check.holding("(ab)");
        Check.dueText("report", Check.reportOf(hall), "0..0");
        hall.erase(0, 2);
        Check.due("the one before stays", hall.reportByte(3), '0');
        Check.dueText("report", Check.reportOf(hall), ".!");
        Check.due("no third byte", hall.reportByte(2), -1);
        Check.due("no fourth byte", hall.reportByte(3), -1);
        hall.erase(0, 2);
        Check.due("an empty report", hall.report(), 0);
        Check.due("no first byte", hall.reportByte(0), -1);
    }

    @Says(at = "Promise 22", words = "for each byte of the text a line feed for a line feed (a hidden one, too)")
    static void reportsLineFeeds() {
        BracketHall hall = Check.holding("kinds (); quote ' escape ^; note #;", "\n'\n^\n'#\n\n");
        Check.dueText("report", Check.reportOf(hall), "\n#\n#\n##\n\n");
    }

    @Says(at = "Promise 22", words = "the digit of its colour for a bracket with a partner")
    static void reportsColours() {
        BracketHall hall = Check.holding("kinds () []; colours 9;", "([([([([([])])])])])");
        Check.dueText("report", Check.reportOf(hall), "01234567800876543210");
        hall.setColours(1);
        Check.dueText("report", Check.reportOf(hall), "0".repeat(20));
    }

    @Says(at = "Promise 22", words = "an exclamation mark (33) for one without, a number sign (35) for a hidden byte, "
        + "a full stop (46) for any other one")
    static void reportsOtherBytes() {
        BracketHall hall = Check.holding("kinds () [] {}; quote '; note #;", "(!'(' a[)]}#(");
        Check.due("report", hall.report(), 13);
        int[] due = {48, 46, 35, 35, 35, 46, 46, 33, 48, 33, 33, 35, 35};
        for (int index = 0; index < due.length; index++) {
            Check.due("reportByte(" + index + ")", hall.reportByte(index), due[index]);
        }
    }

    @Says(at = "Promise 22", words = "It is empty at first.")
    static void reportIsEmptyAtFirst() {
        BracketHall hall = new BracketHall();
        Check.due("first byte", hall.reportByte(0), -1);
        Check.load(hall, "(a)");
        Check.due("first byte with a text", hall.reportByte(0), -1);
    }

    @Says(at = "Promise 22", words = "Returns the number of its bytes.")
    static void reportLength() {
        for (int length : new int[] {0, 1, 239, 240}) {
            BracketHall hall = Check.holding("x".repeat(length));
            Check.due("report of " + length, hall.report(), length);
            Check.due("last byte", hall.reportByte(length - 1), length == 0 ? -1 : '.');
            Check.due("one more", hall.reportByte(length), -1);
        }
        Whole.dueNothing("report()", 19, BracketHall::report);
    }

    @Says(at = "Promise 23", words = "Returns a byte of the latest report.")
    static void latestReport() {
        BracketHall hall = Check.holding("(a");
        hall.report();
        Check.insert(hall, 2, ")");
        hall.report();
        Check.insert(hall, 3, "(");
        Check.due("first byte", hall.reportByte(0), '0');
        Check.due("third byte", hall.reportByte(2), '0');
        Check.due("no fourth byte yet", hall.reportByte(3), -1);
        hall.undo();
        Check.load(hall, "x");
        Check.setup(hall, "kinds [];");
        Check.due("behind an undo, a load and a setup", hall.reportByte(0), '0');
    }

    @Says(at = "Promise 23", words = "Returns the byte; NONE if there are not so many, or index is negative.")
    static void noReportByte() {
        BracketHall hall = Check.holding("(a)");
        hall.report();
        Check.due("first byte", hall.reportByte(0), '0');
        Check.due("last byte", hall.reportByte(2), '0');
        for (int index : Whole.outside(0, 2)) {
            Check.due("reportByte(" + index + ")", hall.reportByte(index), -1);
        }
        for (int index : new int[] {239, 240, 241}) {
            Check.due("reportByte(" + index + ")", hall.reportByte(index), -1);
        }
        Whole.dueNothing("reportByte(19)", -1, h -> h.reportByte(19));
    }

    // ---- Promise 29

    @Says(at = "Promise 29", words = "Sets a mark.")
    static void setsAMark() {
        BracketHall hall = Check.holding("abc");
        hall.mark(2);
        due(hall, "2");
        Check.due("changes", hall.size(9), 1);
        hall.mark(2);
        due(hall, "2 2");
        Check.dueText("the text stays", Check.textOf(hall), "abc");
    }

    @Says(at = "Promise 29", words = "`place`: 0 to the length of the text")
    static void markPlaces() {
        Check.due("in an empty text", new BracketHall().mark(0), 0);
        BracketHall hall = Check.holding("x".repeat(240));
        Check.due("first place", hall.mark(0), 0);
        Check.due("last byte", hall.mark(239), 1);
        Check.due("behind the last byte", hall.mark(240), 2);
        due(hall, "0 239 240");
    }

    @Says(at = "Promise 29", words = "Returns the number of the mark; -2 if there are 8.")
    static void ninthMark() {
        BracketHall hall = Check.holding("abc");
        for (int mark = 0; mark < 8; mark++) {
            Check.due("number", hall.mark(1), mark);
        }
        int changes = hall.size(9);
        String state = Whole.state(hall);
        Check.due("a ninth one", hall.mark(1), -2);
        Check.due("a refusal is no change", hall.size(9), changes);
        Check.dueText("a refusal changes nothing", Whole.state(hall), state);
        Check.due("undo", hall.undo(), 7);
        Check.due("an eighth one again", hall.mark(0), 7);
    }

    @Says(at = "Promise 29", words = "Throws `IndexOutOfBoundsException` if there is no such place")
    static void markNoPlace() {
        for (int place : Whole.outside(0, Whole.LENGTH)) {
            Whole.dueNoPlace("mark(" + place + ")", h -> h.mark(place));
        }
        BracketHall most = marked("abc", 0, 0, 0, 0, 0, 0, 0, 0);
        Check.dueNoPlace("mark(4) with eight marks", () -> most.mark(4));
        Check.dueNoPlace("mark(1) in an empty text", () -> new BracketHall().mark(1));
    }

    // ---- Promise 30

    @Says(at = "Promise 30", words = "Takes a mark away; the numbers of those behind it become 1 less.")
    static void takesAMarkAway() {
        BracketHall hall = marked("abcdefg", 7, 6, 5, 4, 3, 2, 1, 0);
        hall.unmark(7);
        due(hall, "7 6 5 4 3 2 1");
        hall.unmark(0);
        due(hall, "6 5 4 3 2 1");
        hall.unmark(2);
        due(hall, "6 5 3 2 1");
        BracketHall one = marked("a", 1);
        one.unmark(0);
        due(one, "");
        Check.due("marks", one.size(8), 0);
        Check.due("changes", one.size(9), 2);
    }

    @Says(at = "Promise 30", words = "Returns its place.")
    static void unmarkReturnsThePlace() {
        BracketHall hall = marked("x".repeat(240), 240, 0, 239);
        Check.due("third", hall.unmark(2), 239);
        Check.due("first", hall.unmark(0), 240);
        Check.due("last one left", hall.unmark(0), 0);
    }

    @Says(at = "Promise 30", words = "Throws `IndexOutOfBoundsException` if there is no such mark")
    static void unmarkNoMark() {
        for (int mark : Whole.outside(0, 1)) {
            Whole.dueNoPlace("unmark(" + mark + ")", h -> h.unmark(mark));
        }
        Check.dueNoPlace("without marks", () -> new BracketHall().unmark(0));
        BracketHall most = marked("abcdefg", 0, 1, 2, 3, 4, 5, 6, 7);
        Check.dueNoPlace("a ninth mark", () -> most.unmark(8));
    }
}
