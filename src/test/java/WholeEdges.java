/** What the document says of all calls at once. */
final class WholeEdges {
    private WholeEdges() {
    }

    @Says(at = "What it is", words = "An object is used for at most 512 calls after it has been made")
    static void fiveHundredAndTwelveCalls() {
        BracketHall hall = new BracketHall();
        int length = 0;
        for (int call = 1; call <= 510; call += 3) {
            Check.due("append, call " + call, hall.append(0x28295b5d, 0x22235c7d, 0x0a202020, 0x28282828, 0), 20);
            Check.due("insert, call " + (call + 1), hall.insert(length, 1), ++length);
            Check.due("culprit, call " + (call + 2), hall.culprit(), 0);
        }
        Check.due("report, call 511", hall.report(), 170);
        Check.due("undo, call 512", hall.undo(), 9);
    }

    @Says(at = "Terms", words = "A method that throws an exception changes nothing.")
    static void exceptionsChangeNothing() {
        Whole.dueNoArgument("setup(-1)", h -> h.setup(-1));
        Whole.dueNoArgument("load(41)", h -> h.load(41));
        Whole.dueNoArgument("size(14)", h -> h.size(14));
        Whole.dueNoArgument("look(0, 9)", h -> h.look(0, 9));
        Whole.dueNoPlace("around(19, 0)", h -> h.around(19, 0));
        Whole.dueNoElement("within(2, 0)", h -> h.within(2, 0));
        Whole.dueNoElement("beside(2, true)", h -> h.beside(2, true));
        Whole.dueNoArgument("count(0, 3)", h -> h.count(0, 3));
        Whole.dueNoElement("repairStep(2, 0)", h -> h.repairStep(2, 0));
        Whole.dueNoPlace("costWithout(19)", h -> h.costWithout(19));
        Whole.dueNoPlace("markAt(2)", h -> h.markAt(2));
        Whole.dueNoArgument("insert(0, 41)", h -> h.insert(0, 41));
        Whole.dueNoPlace("erase(0, 20)", h -> h.erase(0, 20));
        Whole.dueNoPlace("wrap(0, 0, 3)", h -> h.wrap(0, 0, 3));
        Whole.dueNoElement("unwrap(2)", h -> h.unwrap(2));
        Whole.dueNoPlace("mark(20)", h -> h.mark(20));
        Whole.dueNoPlace("unmark(2)", h -> h.unmark(2));
        Whole.dueNoArgument("setColours(0)", h -> h.setColours(0));
        Whole.dueNoArgument("setCosts(1, 1, 100)", h -> h.setCosts(1, 1, 100));
        Whole.dueNoArgument("script(41)", h -> h.script(41));
        Whole.dueNoPlace("saveSnapshot(2)", h -> h.saveSnapshot(2) ? 1 : 0);
        Whole.dueThrow("restoreSnapshot(0)", IllegalStateException.class, h -> h.restoreSnapshot(0));
    }

    @Says(at = "Terms", words = "A place, range, mark, kind or slot that does not exist causes an "
        + "IndexOutOfBoundsException, which is checked before any other exception.")
    static void noPlaceIsCheckedFirst() {
        Whole.dueNoPlace("look", h -> h.look(19, 9));
        Whole.dueNoPlace("within", h -> h.within(19, 0));
        Whole.dueNoPlace("beside", h -> h.beside(-1, true));
        Whole.dueNoPlace("count", h -> h.count(3, 3));
        Whole.dueNoPlace("insert", h -> h.insert(20, 41));
        Whole.dueNoPlace("unwrap", h -> h.unwrap(19));
        Whole.dueNoPlace("restoreSnapshot", h -> h.restoreSnapshot(2));
        BracketHall full = MarkEdges.marked("x".repeat(240), 0, 0, 0, 0, 0, 0, 0, 0);
        Check.dueNoPlace("mark, ahead of the refusal", () -> full.mark(241));
        Check.dueNoPlace("wrap, ahead of the refusal", () -> full.wrap(0, 241, 0));
        Check.dueNoPlace("wrap, ahead of the refusal", () -> full.wrap(0, 0, 1));
        Check.feed(full, "\t");
        Check.dueNoPlace("insert, ahead of the refusal", () -> full.insert(241, 1));
        Check.due("the buffer stays", full.insert(240, 1), -2);
    }
}
