/** Promises 21 to 23: marks and reports. */
public final class MarksAndReportsTest {
    private static final String SIGNS = "kinds () []; quote \" escape \\; note #;";

    public static void main(String[] args) {
        markAt();
        report();
        reportByte();
        Check.finish("MarksAndReportsTest");
    }

    private static void markAt() {
        BracketHall hall = Check.holding("abc");
        hall.mark(3);
        hall.mark(0);
        Check.due("21 first", hall.markAt(0), 3);
        Check.due("21 second", hall.markAt(1), 0);
        Check.dueNoPlace("21 mark -1", () -> hall.markAt(-1));
        Check.dueNoPlace("21 mark 2", () -> hall.markAt(2));
        Check.dueNoPlace("21 no marks", () -> new BracketHall().markAt(0));
    }

    private static void report() {
        BracketHall hall = Check.holding(SIGNS, "(a[\"\n(\"])#x\n]~(\n");
        Check.dueText("22 report", Check.reportOf(hall), "0.1#\n##10##\n!.!\n");
        hall.setColours(1);
        Check.dueText("22 one colour", Check.reportOf(hall), "0.0#\n##00##\n!.!\n");
        BracketHall deep = Check.holding("((((((((((()))))))))))");
        deep.setColours(9);
        Check.dueText("22 nine colours", Check.reportOf(deep), "0123456780110876543210");
        Check.due("22 empty", new BracketHall().report(), 0);
        BracketHall longest = Check.holding("(".repeat(240));
        Check.due("22 longest", longest.report(), 240);
        Check.due("22 longest, last byte", longest.reportByte(239), '!');
        Check.due("22 no change", longest.size(9), 0);
    }

    private static void reportByte() {
        BracketHall hall = Check.holding("()x");
        Check.due("23 empty at first", hall.reportByte(0), -1);
        hall.report();
        Check.due("23 first", hall.reportByte(0), '0');
        Check.due("23 last", hall.reportByte(2), '.');
        Check.due("23 not so many", hall.reportByte(3), -1);
        Check.due("23 index below 0", hall.reportByte(-1), -1);
        Check.due("23 least index", hall.reportByte(Integer.MIN_VALUE), -1);
        Check.due("23 largest index", hall.reportByte(Integer.MAX_VALUE), -1);
        hall.erase(0, 3);
        Check.due("23 the report stays behind a change", hall.reportByte(2), '.');
        Check.load(hall, ")");
        Check.due("23 the report stays behind a load", hall.reportByte(0), '0');
        hall.report();
        Check.due("23 replaced", hall.reportByte(0), '!');
        Check.due("23 the one before is gone", hall.reportByte(1), -1);
    }
}
