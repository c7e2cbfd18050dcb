/** Promises 24 to 28, 31 and 32: insert, erase, wrap, unwrap, repair, setColours and setCosts. */
final class ChangeEdges {
    private static final String FULL = "x".repeat(240);

    private ChangeEdges() {
    }

    private static void dueText(BracketHall hall, String text) {
        Check.dueText("text", Check.textOf(hall), text);
        Check.due("length", hall.size(0), text.length());
    }

    // ---- Promise 24

    @Says(at = "Promise 24", words = "Puts the first length bytes of the input buffer (none, too) into the text at a place.")
    static void insertsTheFirstBytes() {
        for (int length : new int[] {0, 1, 19, 20}) {
            for (int place : new int[] {0, 1, 2}) {
                BracketHall hall = Check.holding("ab");
                String bytes = "(0123456789\n ~zyxwv)";
                Check.feed(hall, bytes);
                Check.due("insert(" + place + ", " + length + ")", hall.insert(place, length), 2 + length);
                dueText(hall, "ab".substring(0, place) + bytes.substring(0, length) + "ab".substring(place));
                Check.due("changes", hall.size(9), 1);
            }
        }
    }

    @Says(at = "Promise 24", words = "The buffer is empty afterwards, also after a refusal.")
    static void insertEmptiesTheBuffer() {
        for (int length : new int[] {0, 1, 40}) {
            BracketHall hall = Whole.hall();
            Check.due("insert", hall.insert(0, length), Whole.LENGTH + length);
            Check.due("bytes in the buffer", Whole.buffered(hall), 0);
        }
        Whole.dueOnlyEmptied("insert of 222 bytes", -2, h -> h.insert(19, Check.feed(h, "x".repeat(182)) + 40));
        Whole.dueOnlyEmptied("insert with a tabulator", -3, h -> h.insert(0, Check.feed(h, "\t") + 40));
    }

    @Says(at = "Promise 24", words = "`place`: 0 to the length of the text")
    static void insertPlaces() {
        BracketHall hall = new BracketHall();
        Check.due("into an empty text", Check.insert(hall, 0, "bc"), 2);
        Check.due("at the first place", Check.insert(hall, 0, "a"), 3);
        Check.due("at the length", Check.insert(hall, 3, "d"), 4);
        dueText(hall, "abcd");
        BracketHall full = Check.holding(FULL);
        Check.due("none at the length of 240", full.insert(240, 0), 240);
    }

    @Says(at = "Promise 24", words = "`length`: 0 to the length of the buffer")
    static void insertLengths() {
        BracketHall hall = Check.holding("ab");
        Check.due("none of an empty buffer", hall.insert(1, 0), 2);
        Check.feed(hall, "x".repeat(20));
        Check.due("none of a buffer", hall.insert(1, 0), 2);
        dueText(hall, "ab");
        Check.due("all of 220", hall.insert(1, Check.feed(hall, "x".repeat(220))), 222);
    }

    @Says(at = "Promise 24", words = "Returns the length of the text then; -2 if it would have more than 240 bytes, "
        + "-3 if one of the bytes cannot be in a text (the first of these).")
    static void insertRefusals() {
        BracketHall hall = Check.holding("x".repeat(238));
        Check.due("one more than 240", Check.insert(hall, 238, "abc"), -2);
        Check.due("one more than 240, the first one wrong", Check.insert(hall, 0, "\tbc"), -2);
        Check.due("240, the first one wrong", Check.insert(hall, 0, "\tb"), -3);
        Check.due("240, the last one wrong", Check.insert(hall, 0, "a" + (char) 127), -3);
        Check.feed(hall, "a\t");
        Check.due("239, a wrong one behind the length", hall.insert(0, 1), 239);
        Check.due("240", Check.insert(hall, 239, "b"), 240);
        dueText(hall, "a" + "x".repeat(238) + "b");
        Check.due("241", Check.insert(hall, 0, "c"), -2);
        Check.due("600 into an empty text", Check.insert(new BracketHall(), 0, "c".repeat(600)), -2);
        Check.due("240 into an empty text", Check.insert(new BracketHall(), 0, "c".repeat(240)), 240);
        Check.due("241 into an empty text", Check.insert(new BracketHall(), 0, "c".repeat(241)), -2);
    }

    @Says(at = "Promise 24", words = "Throws `IndexOutOfBoundsException` if there is no such place (checked first)")
    static void insertNoPlace() {
        for (int place : Whole.outside(0, Whole.LENGTH)) {
            for (int length : new int[] {Integer.MIN_VALUE, -1, 0, 1, 40, 41}) {
                Whole.dueNoPlace("insert(" + place + ", " + length + ")", h -> h.insert(place, length));
            }
        }
    }

    @Says(at = "Promise 24", words = "Throws `IllegalArgumentException` if length is out of range")
    static void insertOutOfRange() {
        for (int length : Whole.outside(0, 40)) {
            Whole.dueNoArgument("insert(0, " + length + ")", h -> h.insert(0, length));
            Whole.dueNoArgument("insert(19, " + length + ")", h -> h.insert(Whole.LENGTH, length));
        }
    }

    // ---- Promise 25

    @Says(at = "Promise 25", words = "Takes the bytes from one place up to one ahead of another one out of the text.")
    static void erases() {
        String text = "abcd";
        for (int from = 0; from <= 4; from++) {
            for (int to = from; to <= 4; to++) {
                BracketHall hall = Check.holding(text);
                Check.due("erase(" + from + ", " + to + ")", hall.erase(from, to), 4 - (to - from));
                dueText(hall, text.substring(0, from) + text.substring(to));
                Check.due("changes", hall.size(9), 1);
            }
        }
    }

    @Says(at = "Promise 25", words = "`from`: 0 to to")
    static void eraseFrom() {
        BracketHall hall = Check.holding("abc");
        Check.due("erase(2, 2)", hall.erase(2, 2), 3);
        Check.dueNoPlace("erase(3, 2)", () -> hall.erase(3, 2));
        Check.dueNoPlace("erase(1, 0)", () -> hall.erase(1, 0));
        Check.dueNoPlace("erase(-1, 0)", () -> hall.erase(-1, 0));
        Check.due("erase(0, 2)", hall.erase(0, 2), 1);
    }

    @Says(at = "Promise 25", words = "`to`: from to the length of the text")
    static void eraseTo() {
        BracketHall hall = Check.holding("abc");
        Check.due("erase(3, 3)", hall.erase(3, 3), 3);
        Check.dueNoPlace("erase(0, 4)", () -> hall.erase(0, 4));
        Check.dueNoPlace("erase(4, 4)", () -> hall.erase(4, 4));
        Check.due("erase(2, 3)", hall.erase(2, 3), 2);
        Check.due("erase(0, 0) of an empty text", new BracketHall().erase(0, 0), 0);
    }

    @Says(at = "Promise 25", words = "Returns the length of the text then.")
    static void eraseReturnsTheLength() {
        Check.due("nothing of 240", Check.holding(FULL).erase(240, 240), 240);
        Check.due("the last of 240", Check.holding(FULL).erase(239, 240), 239);
        Check.due("all of 240", Check.holding(FULL).erase(0, 240), 0);
    }

    @Says(at = "Promise 25", words = "Throws `IndexOutOfBoundsException` if there is no such range")
    static void eraseNoRange() {
        int[][] ranges = {{-1, 0}, {-1, -1}, {Integer.MIN_VALUE, 3}, {0, 20}, {20, 20}, {19, 20}, {1, 0}, {19, 18},
            {0, Integer.MAX_VALUE}, {Integer.MAX_VALUE, Integer.MAX_VALUE}, {Integer.MIN_VALUE, Integer.MAX_VALUE},
            {0, -1}, {Integer.MIN_VALUE, Integer.MIN_VALUE}, {3, Integer.MIN_VALUE}};
        for (int[] range : ranges) {
            String call = "erase(" + range[0] + ", " + range[1] + ")";
            Whole.dueNoPlace(call, h -> h.erase(range[0], range[1]));
        }
    }

    // ---- Promise 26

    @Says(at = "Promise 26", words = "Puts the closing sign of a kind in at to, then the opening one at from "
        + "(marks move by both).")
    static void wraps() {
        String[] kinds = {"()", "[]", "{}", "<>"};
        for (int kind = 0; kind < 4; kind++) {
            BracketHall hall = Check.holding("kinds () [] {} <>;", "abc");
            for (int place = 0; place <= 3; place++) {
                hall.mark(place);
            }
            Check.due("wrap", hall.wrap(1, 2, kind), 5);
            dueText(hall, "a" + kinds[kind].charAt(0) + "b" + kinds[kind].charAt(1) + "c");
            MarkEdges.due(hall, "0 2 4 5");
            Check.due("changes", hall.size(9), 5);
        }
        BracketHall same = MarkEdges.marked("ab", 0, 1, 2);
        same.wrap(1, 1, 0);
        dueText(same, "a()b");
        MarkEdges.due(same, "0 3 4");
        BracketHall all = MarkEdges.marked("ab", 0, 1, 2);
        all.wrap(0, 2, 0);
        dueText(all, "(ab)");
        MarkEdges.due(all, "1 2 4");
    }

    @Says(at = "Promise 26", words = "`from`: 0 to to")
    static void wrapFrom() {
        BracketHall hall = Check.holding("abc");
        Check.dueNoPlace("wrap(-1, 0, 0)", () -> hall.wrap(-1, 0, 0));
        Check.dueNoPlace("wrap(2, 1, 0)", () -> hall.wrap(2, 1, 0));
        Check.due("wrap(2, 2, 0)", hall.wrap(2, 2, 0), 5);
        Check.due("wrap(0, 2, 0)", hall.wrap(0, 2, 0), 7);
        dueText(hall, "(ab)()c");
    }

    @Says(at = "Promise 26", words = "`to`: from to the length of the text")
    static void wrapTo() {
        BracketHall hall = Check.holding("abc");
        Check.dueNoPlace("wrap(0, 4, 0)", () -> hall.wrap(0, 4, 0));
        Check.dueNoPlace("wrap(4, 4, 0)", () -> hall.wrap(4, 4, 0));
        Check.due("wrap(3, 3, 0)", hall.wrap(3, 3, 0), 5);
        Check.due("wrap(0, 5, 0)", hall.wrap(0, 5, 0), 7);
        dueText(hall, "(abc())");
        Check.due("in an empty text", new BracketHall().wrap(0, 0, 0), 2);
    }

    @Says(at = "Promise 26", words = "Returns the length of the text then; -2 if it would have more than 240 bytes.")
    static void wrapRefusals() {
        Check.due("of 237", Check.holding("x".repeat(237)).wrap(0, 237, 0), 239);
        Check.due("of 238", Check.holding("x".repeat(238)).wrap(0, 238, 0), 240);
        for (int length = 239; length <= 240; length++) {
            BracketHall hall = MarkEdges.marked("x".repeat(length), 3);
            Check.due("of " + length, hall.wrap(0, length, 0), -2);
            Check.due("a refusal is no change", hall.size(9), 1);
            MarkEdges.due(hall, "3");
            dueText(hall, "x".repeat(length));
        }
    }

    @Says(at = "Promise 26", words = "Throws `IndexOutOfBoundsException` if there is no such range or kind")
    static void wrapNoRange() {
        int[][] calls = {{-1, 0, 0}, {-1, -1, 0}, {0, 20, 0}, {20, 20, 0}, {1, 0, 0}, {Integer.MIN_VALUE, 0, 0},
            {0, Integer.MAX_VALUE, 0}, {Integer.MAX_VALUE, Integer.MIN_VALUE, 0}, {0, 0, -1}, {0, 0, 3},
            {0, 19, Integer.MIN_VALUE}, {19, 19, Integer.MAX_VALUE}, {-1, 20, 3}};
        for (int[] call : calls) {
            String words = "wrap(" + call[0] + ", " + call[1] + ", " + call[2] + ")";
            Whole.dueNoPlace(words, h -> h.wrap(call[0], call[1], call[2]));
        }
        BracketHall full = Check.holding(FULL);
        Check.dueNoPlace("no such kind, and no room", () -> full.wrap(0, 0, 1));
        Check.dueNoPlace("no such range, and no room", () -> full.wrap(0, 241, 0));
    }

    // ---- Promise 27

    @Says(at = "Promise 27", words = "Takes both brackets of a pair out of the text, the closing one first.")
    static void unwraps() {
        BracketHall hall = MarkEdges.marked("a(b)c", 0, 1, 2, 3, 4, 5);
        hall.unwrap(1);
        dueText(hall, "abc");
        MarkEdges.due(hall, "0 1 1 2 2 3");
        Check.due("changes", hall.size(9), 7);
        BracketHall empty = MarkEdges.marked("()", 0, 1, 2);
        Check.due("unwrap of an empty pair", empty.unwrap(0), 0);
        MarkEdges.due(empty, "0 0 0");
        BracketHall far = MarkEdges.marked("(" + "x".repeat(238) + ")", 0, 1, 239, 240);
        far.unwrap(239);
        dueText(far, "x".repeat(238));
        MarkEdges.due(far, "0 0 238 238");
    }

    @Says(at = "Promise 27", words = "`place`: the place of one of them")
    static void unwrapByEither() {
        int[] places = {0, 5, 1, 3};
        String[] behind = {"(b)cd", "(b)cd", "(bc)d", "(bc)d"};
        for (int i = 0; i < places.length; i++) {
            BracketHall hall = Check.holding("((b)c)d");
            Check.due("unwrap(" + places[i] + ")", hall.unwrap(places[i]), 5);
            dueText(hall, behind[i]);
        }
    }

    @Says(at = "Promise 27", words = "Returns the length of the text then.")
    static void unwrapReturnsTheLength() {
        Check.due("of 2", Check.holding("()").unwrap(1), 0);
        Check.due("of 3", Check.holding("()(").unwrap(0), 1);
        Check.due("of 240", Check.holding("()".repeat(120)).unwrap(239), 238);
    }

    @Says(at = "Promise 27", words = "Throws `IndexOutOfBoundsException` if there is no such place of a byte (checked first)")
    static void unwrapNoPlace() {
        for (int place : Whole.outside(0, Whole.LENGTH - 1)) {
            Whole.dueNoPlace("unwrap(" + place + ")", h -> h.unwrap(place));
        }
        Check.dueNoPlace("unwrap(0) of an empty text", () -> new BracketHall().unwrap(0));
    }

    @Says(at = "Promise 27", words = "Throws `NoSuchElementException` if there is no bracket with a partner")
    static void unwrapNoPair() {
        for (int place : new int[] {2, 5, 6, 8, 11, 12, 14, 18}) {
            Whole.dueNoElement("unwrap(" + place + ")", h -> h.unwrap(place));
        }
    }

    // ---- Promise 28

    @Says(at = "Promise 28", words = "Does THE REPAIR: the steps are done from the last one to the first one "
        + "(marks move by what is put in and taken out, not by CHANGE).")
    static void repairs() {
        String[] costs = {"1 9 9", "9 1 9"};
        String[] behind = {"abc", "a[]b()c"};
        String[] marks = {"0 1 1 2 2 3", "0 2 3 4 6 7"};
        for (int i = 0; i < 2; i++) {
            BracketHall hall = Check.holding("kinds () []; costs " + costs[i] + ";", "a]b(c");
            for (int place = 0; place <= 5; place++) {
                hall.mark(place);
            }
            hall.repair();
            dueText(hall, behind[i]);
            MarkEdges.due(hall, marks[i]);
            Check.due("changes", hall.size(9), 7);
        }
        BracketHall changed = Check.holding("kinds () []; costs 9 9 1;", "a(b]");
        for (int place = 0; place <= 4; place++) {
            changed.mark(place);
        }
        Check.due("by CHANGE", changed.repair(), 1);
        dueText(changed, "a(b)");
        MarkEdges.due(changed, "0 1 2 3 4");
        for (String kind : new String[] {"()", "[]", "{}", "<>"}) {
            String other = kind.equals("()") ? "]" : ")";
            dueRepair("9 1 9", "a" + kind.charAt(0), "a" + kind);
            dueRepair("9 1 9", "a" + kind.charAt(1), "a" + kind);
            dueRepair("1 9 9", "a" + kind + kind.charAt(0) + kind.charAt(1) + kind.charAt(1), "a" + kind + kind);
            dueRepair("9 9 1", "a" + kind.charAt(0) + other, "a" + kind);
        }
        BracketHall next = Check.holding("kinds () []; costs 9 1 9;", "((");
        next.mark(1);
        next.repair();
        dueText(next, "()()");
        MarkEdges.due(next, "2");
    }

    private static void dueRepair(String costs, String text, String then) {
        BracketHall hall = Check.holding("kinds () [] {} <>; costs " + costs + ";", text);
        Check.due("cost of " + text, hall.repair(), 1);
        dueText(hall, then);
        Check.due("lone ones behind the repair of " + text, hall.size(3), 0);
    }

    @Says(at = "Promise 28", words = "Returns its cost")
    static void repairReturnsTheCost() {
        Check.due("of an empty text", new BracketHall().repair(), 0);
        Check.due("of a right text", Check.holding("(a)").repair(), 0);
        Check.due("of 240 brackets", Check.holding("(".repeat(240)).repair(), 480);
        BracketHall dear = Check.holding("kinds (); costs 99 99 99;", ")".repeat(240));
        Check.due("the dearest", dear.repair(), 23760);
        dueText(dear, "");
    }

    @Says(at = "Promise 28", words = "-2 if the text would have more than 240 bytes (asked of the text as it is at the end)")
    static void repairRefusals() {
        String give = "kinds () []; costs 9 1 3;";
        BracketHall up = Check.holding(give, "(" + "x".repeat(238));
        Check.due("up to 240", up.repair(), 1);
        Check.due("length", up.size(0), 240);
        BracketHall more = Check.holding(give, "(" + "x".repeat(239));
        more.mark(2);
        Check.due("up to 241", more.repair(), -2);
        Check.due("a refusal is no change", more.size(9), 1);
        dueText(more, "(" + "x".repeat(239));
        MarkEdges.due(more, "2");
        Check.due("the cost stays", more.repairCost(), 1);
        Check.due("240 in all by giving", Check.holding(give, "(".repeat(120)).repair(), 120);
        Check.due("242 in all by giving", Check.holding(give, ")".repeat(121)).repair(), -2);
        Check.due("480 in all by giving", Check.holding(give, "(".repeat(240)).repair(), -2);
        BracketHall full = Check.holding("kinds () []; costs 1 9 9;", "(" + "x".repeat(239));
        Check.due("less than 240 by dropping", full.repair(), 1);
        BracketHall changed = Check.holding("kinds () []; costs 9 9 1;", "(" + "x".repeat(238) + "]");
        Check.due("240 by changing", changed.repair(), 1);
        Check.due("240 right ones", Check.holding("()".repeat(120)).repair(), 0);
    }

    // ---- Promises 31 and 32

    @Says(at = "Promise 31", words = "Sets COLOURS.")
    static void setsColours() {
        BracketHall hall = Check.holding("((()))");
        hall.setColours(2);
        Check.dueText("colours", Check.looks(hall, 5), "0 1 0 0 1 0");
        Check.due("COLOURS", hall.size(5), 2);
        Check.due("changes", hall.size(9), 1);
        hall.setColours(2);
        Check.due("the same is a change, too", hall.size(9), 2);
    }

    @Says(at = "Promise 31", words = "`colours`: 1 to 9")
    static void coloursInRange() {
        for (int colours = 1; colours <= 9; colours++) {
            BracketHall hall = new BracketHall();
            hall.setColours(colours);
            Check.due("COLOURS", hall.size(5), colours);
        }
    }

    @Says(at = "Promise 31", words = "Returns the previous number.")
    static void previousColours() {
        BracketHall hall = new BracketHall();
        Check.due("previous", hall.setColours(1), 3);
        Check.due("previous", hall.setColours(9), 1);
        Check.due("previous", hall.setColours(9), 9);
        Check.due("previous", hall.setColours(4), 9);
    }

    @Says(at = "Promise 31", words = "Throws `IllegalArgumentException` if colours is out of range")
    static void coloursOutOfRange() {
        for (int colours : Whole.outside(1, 9)) {
            Whole.dueNoArgument("setColours(" + colours + ")", h -> h.setColours(colours));
        }
        Whole.dueNoArgument("setColours(-1)", h -> h.setColours(-1));
    }

    @Says(at = "Promise 32", words = "Sets the costs of repairs.")
    static void setsCosts() {
        BracketHall hall = Check.holding("kinds () [];", "([)]");
        hall.setCosts(7, 8, 9);
        Check.due("DROP", hall.size(11), 7);
        Check.due("GIVE", hall.size(12), 8);
        Check.due("CHANGE", hall.size(13), 9);
        Check.due("changes", hall.size(9), 1);
        hall.setCosts(7, 8, 9);
        Check.due("the same is a change, too", hall.size(9), 2);
    }

    @Says(at = "Promise 32", words = "`drop`: 1 to 99")
    static void dropInRange() {
        dueCost(0, 11);
    }

    @Says(at = "Promise 32", words = "`give`: 1 to 99")
    static void giveInRange() {
        dueCost(1, 12);
    }

    @Says(at = "Promise 32", words = "`change`: 1 to 99")
    static void changeInRange() {
        dueCost(2, 13);
    }

    private static int set(BracketHall hall, int index, int cost) {
        return hall.setCosts(index == 0 ? cost : 5, index == 1 ? cost : 5, index == 2 ? cost : 5);
    }

    private static void dueCost(int index, int what) {
        for (int cost : new int[] {1, 2, 98, 99}) {
            BracketHall hall = new BracketHall();
            set(hall, index, cost);
            Check.due("size(" + what + ")", hall.size(what), cost);
        }
        for (int cost : Whole.outside(1, 99)) {
            Check.dueNoArgument("cost " + cost, () -> set(new BracketHall(), index, cost));
        }
    }

    @Says(at = "Promise 32", words = "Returns the cost of THE REPAIR then.")
    static void costThen() {
        BracketHall hall = Check.holding("kinds () [];", "(]");
        Check.due("by DROP", hall.setCosts(1, 99, 99), 2);
        Check.due("by GIVE", hall.setCosts(99, 1, 99), 2);
        Check.due("by CHANGE", hall.setCosts(99, 99, 1), 1);
        Check.due("the dearest", hall.setCosts(99, 99, 99), 99);
        Check.due("the cost asked for again", hall.repairCost(), 99);
        Check.due("of an empty text", new BracketHall().setCosts(99, 99, 99), 0);
    }

    @Says(at = "Promise 32", words = "Throws `IllegalArgumentException` if a cost is out of range")
    static void costsOutOfRange() {
        for (int cost : Whole.outside(1, 99)) {
            Whole.dueNoArgument("DROP " + cost, h -> h.setCosts(cost, 1, 1));
            Whole.dueNoArgument("GIVE " + cost, h -> h.setCosts(1, cost, 1));
            Whole.dueNoArgument("CHANGE " + cost, h -> h.setCosts(1, 1, cost));
            Whole.dueNoArgument("all " + cost, h -> h.setCosts(cost, cost, cost));
        }
    }
}
