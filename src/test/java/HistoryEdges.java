/** CHANGES; promises 34 to 36: undo, saveSnapshot and restoreSnapshot. */
final class HistoryEdges {
    private HistoryEdges() {
    }

    /** The calls that are changes, each by its number. */
    private static int change(BracketHall hall, int number) {
        switch (number) {
            case 0: return hall.insert(0, 0);
            case 1: return hall.erase(0, 0);
            case 2: return hall.wrap(0, 0, 0);
            case 3: return hall.unwrap(0);
            case 4: return hall.repair();
            case 5: return hall.mark(0);
            case 6: return hall.unmark(0);
            case 7: return hall.setColours(3);
            case 8: return hall.setCosts(2, 3, 4);
            default: return hall.script(0);
        }
    }

    private static BracketHall one() {
        return MarkEdges.marked("()a", 1);
    }

    @Says(at = "Terms", words = "The methods from insert to script are changes if they throw no exception "
        + "and return no refusal (-2 or less), also if they alter nothing.")
    static void changesAlsoIfNothingIsAltered() {
        for (int number = 0; number <= 9; number++) {
            BracketHall hall = one();
            int answer = change(hall, number);
            Check.due("change " + number + " is done", answer >= 0 ? 1 : 0, 1);
            Check.due("changes behind change " + number, hall.size(9), 2);
            Check.due("undo of change " + number, hall.undo(), 1);
            Check.dueText("what is behind its undo", Whole.seen(hall), Whole.seen(one()));
        }
    }

    @Says(at = "Terms", words = "if they throw no exception")
    static void exceptionsAreNoChanges() {
        BracketHall hall = one();
        Check.dueNoPlace("insert", () -> hall.insert(4, 0));
        Check.dueNoArgument("insert", () -> hall.insert(0, 1));
        Check.dueNoPlace("erase", () -> hall.erase(1, 0));
        Check.dueNoPlace("wrap", () -> hall.wrap(0, 4, 0));
        Check.dueNoPlace("unwrap", () -> hall.unwrap(3));
        Check.dueNoElement("unwrap", () -> hall.unwrap(2));
        Check.dueNoPlace("mark", () -> hall.mark(4));
        Check.dueNoPlace("unmark", () -> hall.unmark(1));
        Check.dueNoArgument("setColours", () -> hall.setColours(10));
        Check.dueNoArgument("setCosts", () -> hall.setCosts(0, 1, 1));
        Check.dueNoArgument("script", () -> hall.script(1));
        Check.due("changes", hall.size(9), 1);
    }

    @Says(at = "Terms", words = "and return no refusal (-2 or less)")
    static void refusalsAreNoChanges() {
        BracketHall hall = Check.holding("kinds (); costs 9 1 9;", "(" + "x".repeat(239));
        for (int mark = 0; mark < 8; mark++) {
            hall.mark(0);
        }
        Check.due("insert", Check.insert(hall, 0, "x"), -2);
        Check.due("insert", Check.insert(hall, 0, "x".repeat(600)), -2);
        Check.due("wrap", hall.wrap(0, 0, 0), -2);
        Check.due("repair", hall.repair(), -2);
        Check.due("mark", hall.mark(0), -2);
        Check.due("a script with an error", Check.script(hall, "want"), -11);
        Check.due("a script that cannot be done", Check.script(hall, "want 1; want 0;"), -21);
        Check.due("changes", hall.size(9), 8);
        hall.erase(1, 2);
        Check.due("insert", Check.insert(hall, 0, "\t"), -3);
        Check.due("changes", hall.size(9), 9);
    }

    @Says(at = "Terms", words = "The latest 10 changes can be undone, the latest first.")
    static void latestTen() {
        for (int changes : new int[] {0, 1, 9, 10, 11, 20, 35}) {
            BracketHall hall = new BracketHall();
            for (int n = 1; n <= changes; n++) {
                Check.insert(hall, 0, "x");
                Check.due("changes behind " + n, hall.size(9), Math.min(n, 10));
            }
            int kept = Math.min(changes, 10);
            for (int n = 1; n <= kept; n++) {
                Check.due("undo " + n, hall.undo(), kept - n);
                Check.due("length behind undo " + n, hall.size(0), changes - n);
            }
            Check.due("one undo more", hall.undo(), -1);
            Check.due("length behind one undo more", hall.size(0), changes - kept);
        }
    }

    @Says(at = "Terms", words = "There are two snapshot slots, 0 and 1")
    static void twoSlots() {
        BracketHall hall = Check.holding("a");
        hall.saveSnapshot(0);
        Check.insert(hall, 0, "b");
        hall.saveSnapshot(1);
        Check.insert(hall, 0, "c");
        hall.restoreSnapshot(0);
        Check.dueText("slot 0", Check.textOf(hall), "a");
        hall.restoreSnapshot(1);
        Check.dueText("slot 1", Check.textOf(hall), "ba");
        hall.restoreSnapshot(0);
        Check.dueText("slot 0 again", Check.textOf(hall), "a");
        for (int slot : Whole.outside(0, 1)) {
            Check.dueNoPlace("saveSnapshot(" + slot + ")", () -> hall.saveSnapshot(slot) ? 1 : 0);
            Check.dueNoPlace("restoreSnapshot(" + slot + ")", () -> hall.restoreSnapshot(slot));
        }
    }

    @Says(at = "Terms", words = "a snapshot holds everything that changes can change "
        + "(the text, the marks, COLOURS and the costs)")
    static void snapshotHoldsAll() {
        BracketHall hall = Check.holding("kinds () []; costs 7 8 9;", "(a]");
        hall.mark(2);
        hall.mark(3);
        hall.setColours(9);
        String state = Whole.state(hall);
        hall.saveSnapshot(0);
        hall.erase(0, 3);
        hall.unmark(0);
        hall.setColours(1);
        hall.setCosts(1, 1, 1);
        Check.due("length", hall.restoreSnapshot(0), 3);
        Check.dueText("state", Whole.state(hall), state);
        Check.dueText("report", Check.reportOf(hall), "!.!");
        Check.due("brackets", hall.size(1), 2);
        Check.due("cost", hall.repairCost(), 9);
        BracketHall full = MarkEdges.marked("x".repeat(240), 0, 40, 80, 120, 160, 200, 239, 240);
        full.saveSnapshot(1);
        full.erase(0, 240);
        Check.due("length of a full text", full.restoreSnapshot(1), 240);
        MarkEdges.due(full, "0 40 80 120 160 200 239 240");
        BracketHall empty = new BracketHall();
        empty.saveSnapshot(0);
        Check.insert(empty, 0, "(".repeat(240));
        Check.due("length of an empty text", empty.restoreSnapshot(0), 0);
    }

    @Says(at = "Terms", words = "a successful setup or load clears the undo history and empties both slots")
    static void setupAndLoadClear() {
        for (int way = 0; way < 2; way++) {
            BracketHall hall = Check.holding("a");
            hall.saveSnapshot(0);
            hall.saveSnapshot(1);
            hall.mark(0);
            Check.due("setup or load", way == 0 ? Check.setup(hall, "kinds ();") : Check.load(hall, "b"), 0);
            Check.due("changes", hall.size(9), 0);
            Check.due("undo", hall.undo(), -1);
            Check.dueNoState("slot 0", () -> hall.restoreSnapshot(0));
            Check.dueNoState("slot 1", () -> hall.restoreSnapshot(1));
            Check.due("an earlier one in slot 0", hall.saveSnapshot(0) ? 1 : 0, 0);
            Check.due("an earlier one in slot 1", hall.saveSnapshot(1) ? 1 : 0, 0);
        }
        BracketHall failed = Check.holding("a");
        failed.saveSnapshot(0);
        failed.saveSnapshot(1);
        failed.mark(0);
        Check.due("a setup that fails", Check.setup(failed, "kinds"), 1);
        Check.due("a load that fails", Check.load(failed, "\t"), -3);
        Check.due("changes", failed.size(9), 1);
        Check.due("undo", failed.undo(), 0);
        Check.due("slot 0", failed.restoreSnapshot(0), 1);
        Check.due("slot 1", failed.restoreSnapshot(1), 1);
    }

    // ---- Promise 34

    @Says(at = "Promise 34", words = "Undoes the latest change that has not been undone.")
    static void undoes() {
        BracketHall hall = Check.holding("");
        for (int n = 0; n < 3; n++) {
            Check.insert(hall, n, "abc".substring(n, n + 1));
        }
        hall.undo();
        Check.dueText("text", Check.textOf(hall), "ab");
        hall.undo();
        Check.dueText("text", Check.textOf(hall), "a");
        Check.insert(hall, 1, "d");
        hall.undo();
        Check.dueText("text behind the undo of a later change", Check.textOf(hall), "a");
        hall.undo();
        Check.dueText("text", Check.textOf(hall), "");
        Check.due("none left", hall.undo(), -1);
    }

    @Says(at = "Promise 34", words = "Undoes the latest change")
    static void undoesAllThatHasChanged() {
        for (int number = 0; number <= 9; number++) {
            BracketHall hall = MarkEdges.marked("a(()", 1, 3);
            String seen = Whole.seen(hall);
            alter(hall, number);
            String then = Whole.seen(hall);
            Check.due("change " + number + " alters something", seen.equals(then) ? 1 : 0, 0);
            Check.due("undo of change " + number, hall.undo(), 2);
            Check.dueText("what is behind its undo", Whole.seen(hall), seen);
        }
    }

    private static void alter(BracketHall hall, int number) {
        switch (number) {
            case 0: Check.insert(hall, 0, "(\n"); break;
            case 1: hall.erase(2, 3); break;
            case 2: hall.wrap(1, 2, 0); break;
            case 3: hall.unwrap(3); break;
            case 4: hall.repair(); break;
            case 5: hall.mark(4); break;
            case 6: hall.unmark(0); break;
            case 7: hall.setColours(1); break;
            case 8: hall.setCosts(9, 8, 7); break;
            default: Check.script(hall, "put 4 41; wrap 0 1 0; swap 0 2; want 2; repair;"); break;
        }
    }

    @Says(at = "Promise 34", words = "Returns the number of changes that can still be undone; "
        + "NONE if there was none to undo.")
    static void undoAnswers() {
        BracketHall hall = Check.holding("a");
        Check.due("none", hall.undo(), -1);
        Check.due("none once more", hall.undo(), -1);
        Check.dueText("the text stays", Check.textOf(hall), "a");
        hall.mark(0);
        hall.mark(1);
        Check.due("two to undo", hall.undo(), 1);
        Check.due("one to undo", hall.undo(), 0);
        Check.due("none to undo", hall.undo(), -1);
        Check.due("changes", hall.size(9), 0);
        hall.mark(0);
        Check.due("one again", hall.undo(), 0);
        BracketHall most = new BracketHall();
        for (int n = 0; n < 11; n++) {
            most.erase(0, 0);
        }
        Check.due("of eleven", most.undo(), 9);
    }

    // ---- Promise 35

    @Says(at = "Promise 35", words = "Saves a snapshot in a slot, in place of an earlier one.")
    static void inPlaceOfAnEarlierOne() {
        BracketHall hall = Check.holding("a");
        hall.saveSnapshot(1);
        Check.insert(hall, 0, "b");
        hall.saveSnapshot(1);
        Check.insert(hall, 0, "c");
        hall.restoreSnapshot(1);
        Check.dueText("the later one", Check.textOf(hall), "ba");
        BracketHall same = Whole.hall();
        String seen = Whole.seen(same);
        same.saveSnapshot(0);
        Check.dueText("a snapshot is no change", Whole.seen(same), seen);
    }

    @Says(at = "Promise 35", words = "Returns whether there was an earlier one.")
    static void whetherThereWasOne() {
        BracketHall hall = new BracketHall();
        for (int slot = 0; slot <= 1; slot++) {
            Check.due("first in " + slot, hall.saveSnapshot(slot) ? 1 : 0, 0);
            Check.due("second in " + slot, hall.saveSnapshot(slot) ? 1 : 0, 1);
            Check.due("third in " + slot, hall.saveSnapshot(slot) ? 1 : 0, 1);
        }
        hall.restoreSnapshot(0);
        Check.due("behind a restore", hall.saveSnapshot(0) ? 1 : 0, 1);
    }

    @Says(at = "Promise 35", words = "Throws `IndexOutOfBoundsException` if there is no such slot")
    static void saveNoSlot() {
        for (int slot : Whole.outside(0, 1)) {
            Whole.dueNoPlace("saveSnapshot(" + slot + ")", h -> h.saveSnapshot(slot) ? 1 : 0);
        }
    }

    // ---- Promise 36

    @Says(at = "Promise 36", words = "Restores the snapshot of a slot, which stays stored.")
    static void staysStored() {
        BracketHall hall = Check.holding("ab");
        hall.saveSnapshot(0);
        for (int n = 0; n < 3; n++) {
            hall.erase(0, 1);
            hall.mark(0);
            Check.due("restoreSnapshot(0)", hall.restoreSnapshot(0), 2);
            Check.dueText("text", Check.textOf(hall), "ab");
            Check.due("marks", hall.size(8), 0);
        }
    }

    @Says(at = "Promise 36", words = "The undo history is cleared.")
    static void historyIsCleared() {
        BracketHall hall = Check.holding("ab");
        hall.erase(0, 1);
        hall.saveSnapshot(0);
        hall.erase(0, 1);
        hall.restoreSnapshot(0);
        Check.due("changes", hall.size(9), 0);
        Check.due("undo", hall.undo(), -1);
        Check.dueText("text", Check.textOf(hall), "b");
        hall.mark(0);
        Check.due("changes behind a change", hall.size(9), 1);
    }

    @Says(at = "Promise 36", words = "Returns the length of the text then.")
    static void restoreReturnsTheLength() {
        for (int length : new int[] {0, 1, 239, 240}) {
            BracketHall hall = Check.holding("x".repeat(length));
            hall.saveSnapshot(1);
            hall.erase(0, length);
            Check.due("restoreSnapshot(1)", hall.restoreSnapshot(1), length);
        }
    }

    @Says(at = "Promise 36", words = "Throws `IndexOutOfBoundsException` if there is no such slot (checked first)")
    static void restoreNoSlot() {
        for (int slot : Whole.outside(0, 1)) {
            Whole.dueNoPlace("restoreSnapshot(" + slot + ")", h -> h.restoreSnapshot(slot));
            Check.dueNoPlace("restoreSnapshot(" + slot + ") of a new one", () -> new BracketHall().restoreSnapshot(slot));
        }
    }

    @Says(at = "Promise 36", words = "Throws `IllegalStateException` if the slot is empty")
    static void restoreEmptySlot() {
        Whole.dueThrow("restoreSnapshot(0)", IllegalStateException.class, h -> h.restoreSnapshot(0));
        Check.dueNoState("slot 0 of a new one", () -> new BracketHall().restoreSnapshot(0));
        Check.dueNoState("slot 1 of a new one", () -> new BracketHall().restoreSnapshot(1));
    }
}
