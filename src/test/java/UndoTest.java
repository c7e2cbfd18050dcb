/** Promises 34 to 36: the undo history and the snapshots. */
public final class UndoTest {
    public static void main(String[] args) {
        undo();
        undoOfEachChange();
        tenChanges();
        saveSnapshot();
        restoreSnapshot();
        Check.finish("UndoTest");
    }

    private static void undo() {
        BracketHall hall = Check.holding("a");
        Check.due("34 none", hall.undo(), -1);
        Check.insert(hall, 1, "b");
        Check.insert(hall, 2, "c");
        Check.due("34 latest", hall.undo(), 1);
        Check.dueText("34 text", Check.textOf(hall), "ab");
        Check.insert(hall, 0, "d");
        Check.due("34 changes behind an undo", hall.size(9), 2);
        Check.due("34 latest", hall.undo(), 1);
        Check.dueText("34 text", Check.textOf(hall), "ab");
        Check.due("34 first", hall.undo(), 0);
        Check.dueText("34 text", Check.textOf(hall), "a");
        Check.due("34 none is left", hall.undo(), -1);
        Check.dueText("34 text", Check.textOf(hall), "a");
    }

    private static void undoOfEachChange() {
        BracketHall hall = Check.holding("kinds () []; costs 9 9 1;", "(a]b");
        hall.mark(3);
        String text = Check.textOf(hall);
        Check.insert(hall, 0, "x");
        dueUndone(hall, text, "insert");
        hall.erase(0, 4);
        dueUndone(hall, text, "erase");
        hall.wrap(0, 4, 1);
        dueUndone(hall, text, "wrap");
        hall.repair();
        dueUndone(hall, text, "repair");
        hall.mark(1);
        dueUndone(hall, text, "mark");
        hall.unmark(0);
        dueUndone(hall, text, "unmark");
        hall.setColours(7);
        dueUndone(hall, text, "setColours");
        hall.setCosts(1, 2, 3);
        dueUndone(hall, text, "setCosts");
        Check.script(hall, "erase 0 1; put 0 91; wrap 0 0 0;");
        dueUndone(hall, text, "script");
        Check.setup(hall, "kinds ();");
        Check.load(hall, "(a)b");
        hall.mark(3);
        hall.setColours(3);
        hall.setCosts(9, 9, 1);
        hall.unwrap(2);
        hall.undo();
        Check.dueText("34 unwrap undone", Check.textOf(hall), "(a)b");
        Check.dueText("34 marks of unwrap undone", Check.marksOf(hall), "3");
    }

    private static void dueUndone(BracketHall hall, String text, String change) {
        Check.due("34 undo of " + change, hall.undo(), 1);
        Check.dueText("34 text behind undo of " + change, Check.textOf(hall), text);
        Check.dueText("34 marks behind undo of " + change, Check.marksOf(hall), "3");
        Check.due("34 colours behind undo of " + change, hall.size(5), 3);
        Check.due("34 costs behind undo of " + change, hall.size(11), 9);
        Check.due("34 lone ones behind undo of " + change, hall.size(3), 2);
        Check.due("34 repair behind undo of " + change, hall.repairCost(), 1);
    }

    private static void tenChanges() {
        BracketHall hall = new BracketHall();
        for (int n = 1; n <= 25; n++) {
            Check.insert(hall, 0, "x");
            Check.due("34 changes kept of " + n, hall.size(9), Math.min(n, 10));
        }
        for (int n = 1; n <= 10; n++) {
            Check.due("34 undo " + n, hall.undo(), 10 - n);
            Check.due("34 length " + n, hall.size(0), 25 - n);
        }
        Check.due("34 undo 11", hall.undo(), -1);
        Check.due("34 length", hall.size(0), 15);
    }

    private static void saveSnapshot() {
        BracketHall hall = Check.holding("a");
        Check.due("35 first", hall.saveSnapshot(0) ? 1 : 0, 0);
        Check.due("35 again", hall.saveSnapshot(0) ? 1 : 0, 1);
        Check.due("35 other slot", hall.saveSnapshot(1) ? 1 : 0, 0);
        Check.due("35 no change", hall.size(9), 0);
        Check.dueNoPlace("35 slot -1", () -> hall.saveSnapshot(-1) ? 1 : 0);
        Check.dueNoPlace("35 slot 2", () -> hall.saveSnapshot(2) ? 1 : 0);
        Check.insert(hall, 1, "b");
        Check.due("35 in place of an earlier one", hall.saveSnapshot(0) ? 1 : 0, 1);
        hall.erase(0, 2);
        Check.due("35 the later one", hall.restoreSnapshot(0), 2);
        Check.due("35 the other one", hall.restoreSnapshot(1), 1);
        Check.load(hall, "x");
        Check.due("35 emptied by a load", hall.saveSnapshot(0) ? 1 : 0, 0);
        Check.setup(hall, "kinds ();");
        Check.due("35 emptied by a setup", hall.saveSnapshot(0) ? 1 : 0, 0);
    }

    private static void restoreSnapshot() {
        BracketHall hall = Check.holding("kinds () [];", "(a]");
        hall.mark(2);
        hall.setColours(5);
        hall.setCosts(8, 7, 6);
        hall.saveSnapshot(1);
        hall.unmark(0);
        hall.setColours(2);
        hall.setCosts(1, 1, 1);
        hall.erase(0, 3);
        Check.dueNoState("36 empty slot", () -> hall.restoreSnapshot(0));
        Check.dueNoPlace("36 slot -1", () -> hall.restoreSnapshot(-1));
        Check.dueNoPlace("36 slot 2", () -> hall.restoreSnapshot(2));
        Check.due("36 exceptions change nothing", hall.size(9), 7);
        Check.due("36 length", hall.restoreSnapshot(1), 3);
        Check.dueText("36 text", Check.textOf(hall), "(a]");
        Check.dueText("36 marks", Check.marksOf(hall), "2");
        Check.due("36 colours", hall.size(5), 5);
        Check.due("36 drop", hall.size(11), 8);
        Check.due("36 give", hall.size(12), 7);
        Check.due("36 change", hall.size(13), 6);
        Check.due("36 cost", hall.repairCost(), 6);
        Check.due("36 history cleared", hall.size(9), 0);
        Check.due("36 nothing to undo", hall.undo(), -1);
        hall.erase(0, 1);
        Check.due("36 the slot stays stored", hall.restoreSnapshot(1), 3);
        Check.dueText("36 text", Check.textOf(hall), "(a]");
    }
}
