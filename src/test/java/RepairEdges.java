import java.util.ArrayList;
import java.util.List;

/** REPAIRS; promises 16 to 20: what THE REPAIR costs and does, and what it would cost without a byte. */
final class RepairEdges {
    private static final String KINDS = "kinds () []; ";
    private static final String SIGNS = "kinds () []; quote \" escape \\; note #; ";
    private static final String[] COSTS = {"2 3 4", "9 9 1", "1 1 1", "3 2 9", "9 2 3", "5 5 5", "2 9 3", "99 98 1"};

    private RepairEdges() {
    }

    /** A text with this cost of THE REPAIR and these steps: D, G or C, the place and the kind. */
    private static void due(String costs, String text, int cost, String steps) {
        BracketHall hall = Check.holding(KINDS + "costs " + costs + ";", text);
        Check.due("cost of " + text, hall.repairCost(), cost);
        Check.dueText("steps of " + text, Check.stepsOf(hall), steps);
        Check.due("number of steps of " + text, hall.repairSteps(), steps.isEmpty() ? 0 : steps.split(" ").length);
    }

    private static void dueText(String costs, String text, String then) {
        BracketHall hall = Check.holding(KINDS + "costs " + costs + ";", text);
        hall.repair();
        Check.dueText("text behind the repair of " + text, Check.textOf(hall), then);
    }

    /** All texts of up to five brackets of two kinds. */
    private static List<String> smallTexts() {
        List<String> texts = new ArrayList<>(List.of(""));
        for (int from = 0, length = 1; length <= 5; length++) {
            int to = texts.size();
            for (int i = from; i < to; i++) {
                for (char sign : "()[]".toCharArray()) {
                    texts.add(texts.get(i) + sign);
                }
            }
            from = to;
        }
        return texts;
    }

    private static boolean matches(String brackets) {
        String left = brackets;
        for (int n = 0; n < brackets.length(); n++) {
            left = left.replace("()", "").replace("[]", "");
        }
        return left.isEmpty();
    }

    /** The least cost of all ways to do one thing with each bracket, behind which all match. */
    private static int leastCost(String text, int place, String done, int[] costs) {
        if (place == text.length()) {
            return matches(done) ? 0 : 1 << 20;
        }
        char sign = text.charAt(place);
        int best = leastCost(text, place + 1, done + sign, costs);
        best = Math.min(best, costs[0] + leastCost(text, place + 1, done, costs));
        String given = "()".indexOf(sign) >= 0 ? "()" : "[]";
        best = Math.min(best, costs[1] + leastCost(text, place + 1, done + given, costs));
        if (sign == ')' || sign == ']') {
            char other = sign == ')' ? ']' : ')';
            best = Math.min(best, costs[2] + leastCost(text, place + 1, done + other, costs));
        }
        return best;
    }

    private static int[] costsIn(String told) {
        String[] words = told.split(" ");
        return new int[] {Integer.parseInt(words[0]), Integer.parseInt(words[1]), Integer.parseInt(words[2])};
    }

    // ---- Terms

    @Says(at = "Terms", words = "nothing, if it has nothing to be done; it DROPs it (it is taken out of the text)")
    static void nothingOrDrop() {
        due("1 1 1", "", 0, "");
        due("1 1 1", "a\n", 0, "");
        due("1 1 1", "([]a)", 0, "");
        due("1 9 9", "a(b", 1, "D1:0");
        due("1 9 9", "a]b", 1, "D1:1");
        dueText("1 9 9", "a(b", "ab");
        dueText("1 9 9", "a]b(", "ab");
    }

    @Says(at = "Terms", words = "it GIVEs it a partner (a closing sign of its kind right behind an opening bracket, "
        + "an opening one right ahead of a closing bracket)")
    static void give() {
        due("9 1 9", "a(b", 1, "G1:0");
        due("9 1 9", "a]b", 1, "G1:1");
        dueText("9 1 9", "a(b", "a()b");
        dueText("9 1 9", "a]b", "a[]b");
        dueText("9 1 9", "[", "[]");
        dueText("9 1 9", ")", "()");
        dueText("9 1 9", "][", "[][]");
        dueText("9 1 9", "(]", "()[]");
    }

    @Says(at = "Terms", words = "or it CHANGEs a closing bracket to another kind.")
    static void change() {
        due("9 9 1", "(a]", 1, "C2:0");
        dueText("9 9 1", "(a]", "(a)");
        due("9 9 1", "[)", 1, "C1:1");
        dueText("9 9 1", "[)", "[]");
        due("9 9 1", "](", 18, "D0:1 D1:0");
        due("9 9 1", "((", 18, "D0:0 D1:0");
        due("9 9 1", "))", 18, "D0:0 D1:0");
    }

    @Says(at = "Terms", words = "Behind a repair all brackets must match: each closing one is paired with an opening "
        + "one of its kind, none stays without a partner, and no pair crosses another one.")
    static void allMatchBehindARepair() {
        for (String text : smallTexts()) {
            for (String costs : COSTS) {
                BracketHall hall = Check.holding(KINDS + "costs " + costs + ";", text);
                int cost = hall.repairCost();
                Check.due("repair of " + text, hall.repair(), cost);
                Check.due("all match behind the repair of " + text, matches(Check.textOf(hall)) ? 1 : 0, 1);
                Check.due("lone ones behind the repair of " + text, hall.size(3), 0);
                Check.due("cost behind the repair of " + text, hall.repairCost(), 0);
                Check.due("steps behind the repair of " + text, hall.repairSteps(), 0);
            }
        }
    }

    @Says(at = "Terms", words = "is the cheapest of the following ways")
    static void cheapest() {
        for (String text : smallTexts()) {
            BracketHall hall = Check.holding(KINDS, text);
            for (String told : COSTS) {
                int[] costs = costsIn(told);
                int cost = hall.setCosts(costs[0], costs[1], costs[2]);
                Check.due("cost of " + text + " at " + told, cost, leastCost(text, 0, "", costs));
                int sum = 0;
                for (int k = 0; k < hall.repairSteps(); k++) {
                    sum += costs[hall.repairStep(k, 0)];
                }
                Check.due("cost of the steps of " + text + " at " + told, sum, cost);
            }
        }
    }

    @Says(at = "Terms", words = "The repair of the brackets from the i-th one up to one ahead of the j-th one "
        + "(none: cost 0)")
    static void noneCostsNothing() {
        due("99 99 99", "", 0, "");
        due("99 99 99", "()", 0, "");
        due("99 99 99", "()()", 0, "");
        due("99 99 99", "(())", 0, "");
    }

    @Says(at = "Terms", words = "of several equally cheap ones the first in this order")
    static void firstOfEquallyCheap() {
        due("3 3 9", "(", 3, "D0:0");
        due("3 3 9", ")", 3, "D0:0");
        due("2 9 4", "(]", 4, "D0:0 D1:1");
        due("9 2 4", "(]", 4, "G0:0 G1:1");
        due("5 5 1", "(]]", 6, "C1:0 D2:1");
        due("2 3 9", "()(", 2, "D2:0");
        due("2 3 9", "(()", 2, "D0:0");
        due("2 3 9", "())", 2, "D2:0");
        due("2 2 9", "(()", 2, "D0:0");
        due("3 2 9", "(()", 2, "G0:0");
        due("2 9 4", "((])", 4, "D0:0 D2:1");
        due("9 2 4", "((])", 4, "G0:0 G2:1");
        due("2 3 4", "([)]", 4, "D0:0 D2:0");
        due("3 2 4", "([)]", 4, "G0:0 G2:0");
        due("9 9 1", "([)]", 2, "C2:1 C3:0");
        due("9 9 2", "(]]]", 20, "C1:0 D2:1 D3:1");
    }

    @Says(at = "Terms", words = "(1) the i-th one is dropped, and those behind it are repaired")
    static void dropFirst() {
        due("1 2 9", "(])[", 2, "D1:1 D3:1");
        due("1 2 9", "](]", 3, "D0:1 D1:0 D2:1");
        due("4 5 9", "[()", 4, "D0:1");
    }

    @Says(at = "Terms", words = "(2) it is given a partner, and those behind it are repaired")
    static void giveSecond() {
        due("2 1 9", "(])[", 2, "G1:1 G3:1");
        due("2 1 9", "](]", 3, "G0:1 G1:0 G2:1");
        due("5 4 9", "[()", 4, "G0:1");
    }

    @Says(at = "Terms", words = "(3) if it is an opening one, for each closing one m of those behind it, in order: "
        + "m becomes its partner (by CHANGE if it is of another kind), those between both are repaired, "
        + "and those behind m.")
    static void partnerThird() {
        due("9 9 1", "([()", 18, "D0:0 D1:1");
        due("9 9 1", "[(]", 9, "D1:0");
        due("9 9 1", "(]]]", 19, "C1:0 D2:1 D3:1");
        due("9 9 1", "((]])", 10, "C2:0 D3:1");
        due("9 9 1", "[)(]", 2, "C1:1 C3:0");
        due("9 9 1", "([]", 9, "D0:0");
        due("9 9 1", "(([])", 9, "D0:0");
        due("9 9 9", "([)])", 9, "D2:0");
    }

    @Says(at = "Terms", words = "THE REPAIR is that of all brackets.")
    static void ofAllBrackets() {
        due("2 3 4", "]a()b(", 4, "D0:1 D5:0");
        due("2 3 4", "(" + "x".repeat(238) + "]", 4, "D0:0 D239:1");
        BracketHall hidden = Check.holding(SIGNS, "(\")\"#)\n");
        Check.dueText("no hidden ones", Check.stepsOf(hidden), "D0:0");
    }

    // ---- Promises 16 and 17

    @Says(at = "Promise 16", words = "Returns the cost of THE REPAIR.")
    static void cost() {
        Check.due("of an empty text", new BracketHall().repairCost(), 0);
        BracketHall hall = Check.holding("(".repeat(240));
        Check.due("of 240 opening ones", hall.repairCost(), 480);
        hall.setCosts(99, 99, 99);
        Check.due("the dearest", hall.repairCost(), 23760);
        hall.setCosts(99, 1, 99);
        Check.due("by GIVE", hall.repairCost(), 240);
        BracketHall changed = Check.holding(KINDS + "costs 99 99 99;", "(".repeat(120) + "]".repeat(120));
        Check.due("by CHANGE", changed.repairCost(), 120 * 99);
        Check.due("the changes stay as they are", changed.size(9), 0);
        Whole.dueNothing("repairCost()", 10, BracketHall::repairCost);
    }

    @Says(at = "Promise 17", words = "Returns the number of brackets to which THE REPAIR does something "
        + "(of a pair by CHANGE the closing one alone).")
    static void steps() {
        Check.due("of an empty text", new BracketHall().repairSteps(), 0);
        Check.due("of a right text", Check.holding("(())").repairSteps(), 0);
        Check.due("of 240 lone ones", Check.holding(")".repeat(240)).repairSteps(), 240);
        BracketHall changed = Check.holding(KINDS + "costs 9 9 1;", "(".repeat(120) + "]".repeat(120));
        Check.due("of 120 pairs by CHANGE", changed.repairSteps(), 120);
        Check.due("first place", changed.repairStep(0, 1), 120);
        Check.due("last place", changed.repairStep(119, 1), 239);
        Whole.dueNothing("repairSteps()", 2, BracketHall::repairSteps);
    }

    // ---- Promise 18

    @Says(at = "Promise 18", words = "the steps being in the order of their brackets")
    static void stepsInOrder() {
        due("5 4 3", "[)(](])", 10, "C1:1 C3:0 G5:1");
        BracketHall hall = Check.holding(KINDS + "costs 2 9 1;", ")([(])(](()[]))]a][[");
        for (int k = 1; k < hall.repairSteps(); k++) {
            Check.due("step " + k + " is behind " + (k - 1), hall.repairStep(k, 1) > hall.repairStep(k - 1, 1) ? 1 : 0, 1);
        }
        due("9 9 1", "((]a]", 2, "C2:0 C4:0");
        due("9 8 1", "](]", 9, "G0:1 C2:0");
    }

    @Says(at = "Promise 18", words = "`what`: 0 0 for DROP, 1 for GIVE, 2 for CHANGE, 1 the place of the bracket, "
        + "2 its kind, for CHANGE the one that it gets")
    static void stepProperties() {
        int[][] due = {{0, 1, 1}, {0, 3, 0}};
        BracketHall drop = Check.holding(KINDS, "a[b(");
        BracketHall give = Check.holding(KINDS + "costs 3 2 4;", "a[b(");
        for (int k = 0; k < 2; k++) {
            for (int what = 0; what < 3; what++) {
                Check.due("repairStep(" + k + ", " + what + ")", drop.repairStep(k, what), due[k][what]);
                Check.due("repairStep(" + k + ", " + what + ")", give.repairStep(k, what), what == 0 ? 1 : due[k][what]);
            }
        }
        BracketHall change = Check.holding("kinds () [] {} <>; costs 9 9 1;", "a<b)");
        Check.due("CHANGE", change.repairStep(0, 0), 2);
        Check.due("place", change.repairStep(0, 1), 3);
        Check.due("kind", change.repairStep(0, 2), 3);
    }

    @Says(at = "Promise 18", words = "Throws `NoSuchElementException` if there is no such step (checked first)")
    static void noSuchStep() {
        for (int k : Whole.outside(0, 1)) {
            for (int what = -1; what <= 3; what++) {
                int property = what;
                Whole.dueNoElement("repairStep(" + k + ", " + what + ")", h -> h.repairStep(k, property));
            }
        }
        Check.dueNoElement("without steps", () -> new BracketHall().repairStep(0, 0));
        Check.dueNoElement("without steps", () -> Check.holding("()").repairStep(0, 3));
        Check.dueNoElement("a 241st step", () -> Check.holding("(".repeat(240)).repairStep(240, 0));
        Check.due("a 240th step", Check.holding("(".repeat(240)).repairStep(239, 1), 239);
    }

    @Says(at = "Promise 18", words = "Throws `IllegalArgumentException` if what is out of range")
    static void stepOutOfRange() {
        for (int what : Whole.outside(0, 2)) {
            Whole.dueNoArgument("repairStep(0, " + what + ")", h -> h.repairStep(0, what));
            Whole.dueNoArgument("repairStep(1, " + what + ")", h -> h.repairStep(1, what));
        }
    }

    // ---- Promise 19

    private static void dueWithout(String text, int... costs) {
        BracketHall hall = Check.holding(SIGNS, text);
        for (int place = 0; place < costs.length; place++) {
            Check.due("costWithout(" + place + ") of " + text, hall.costWithout(place), costs[place]);
        }
        Check.dueText("the text stays", Check.textOf(hall), text);
    }

    @Says(at = "Promise 19", words = "Returns the cost that THE REPAIR would have if a byte was taken out of the text.")
    static void costWithout() {
        dueWithout("(", 0);
        dueWithout("a", 0);
        dueWithout("(a)", 2, 0, 2);
        dueWithout("(]a", 2, 2, 4);
        dueWithout("\"(\"", 2, 0, 0);
        dueWithout("\"\\\"(\"", 0, 2, 0, 0, 0);
        dueWithout("#(\n)", 0, 2, 0, 0);
        dueWithout("\"\\a\"(", 0, 2, 0, 0, 0);
        dueWithout("(#\n)", 2, 0, 2, 2);
        dueWithout("\"()\"((", 0, 4, 4, 0, 2, 2);
        dueWithout("\"[(\"[]", 4, 0, 0, 0, 2, 2);
        Check.due("one of 240", Check.holding("(".repeat(240)).costWithout(239), 478);
        Whole.dueNothing("costWithout(5)", 5, h -> h.costWithout(5));
        Whole.dueNothing("costWithout(7)", 15, h -> h.costWithout(7));
    }

    @Says(at = "Promise 19", words = "Throws `IndexOutOfBoundsException` if there is no such place of a byte")
    static void costWithoutNoPlace() {
        for (int place : Whole.outside(0, Whole.LENGTH - 1)) {
            Whole.dueNoPlace("costWithout(" + place + ")", h -> h.costWithout(place));
        }
        Check.dueNoPlace("costWithout(0) in an empty text", () -> new BracketHall().costWithout(0));
    }

    // ---- Promise 20

    private static void dueCulprit(String text, int place) {
        BracketHall hall = Check.holding(SIGNS, text);
        Check.due("culprit of " + text, hall.culprit(), place);
        Check.dueText("the text stays", Check.textOf(hall), text);
    }

    @Says(at = "Promise 20", words = "Returns the place of the byte (of any, the text being read anew without it) "
        + "without which THE REPAIR would cost the least")
    static void culpritOfAnyByte() {
        dueCulprit("a(", 1);
        dueCulprit("((\"))", 2);
        dueCulprit("((\"\\\"))", 3);
        dueCulprit("((#))", 2);
        dueCulprit("((\n#\n((", 4);
        dueCulprit("\"(\\a\"((", 3);
        dueCulprit("[(])()", 0);
        BracketHall cheap = Check.holding(KINDS + "costs 1 1 1;", "ab(");
        Check.due("culprit of a repair that costs 1", cheap.culprit(), 2);
        BracketHall changed = Check.holding(KINDS + "costs 9 9 1;", "([]]");
        Check.due("culprit of a change that costs 1", changed.culprit(), -1);
        for (String text : new String[] {"([)\"]\"#(", "\"\\\"(\")#\n](", "(#[\n)]\"(\"", "[(\\\"]\")\n#("}) {
            BracketHall hall = Check.holding(SIGNS, text);
            int least = hall.repairCost();
            int place = -1;
            for (int p = 0; p < text.length(); p++) {
                int cost = Check.holding(SIGNS, text.substring(0, p) + text.substring(p + 1)).repairCost();
                Check.due("costWithout(" + p + ") of " + text, hall.costWithout(p), cost);
                place = cost < least ? p : place;
                least = Math.min(cost, least);
            }
            dueCulprit(text, place);
        }
    }

    @Says(at = "Promise 20", words = "of several the first one")
    static void firstCulprit() {
        dueCulprit("a(((", 1);
        dueCulprit("(".repeat(240), 0);
        dueCulprit("a)b)", 1);
        dueCulprit("(\")", 0);
        dueCulprit("\"\"(", 0);
        dueCulprit("()x]y[", 3);
        dueCulprit("x#\n()](", 2);
    }

    @Says(at = "Promise 20", words = "NONE if no byte makes it cost less")
    static void noCulprit() {
        dueCulprit("", -1);
        dueCulprit("abc\n", -1);
        dueCulprit("(a)[]", -1);
        dueCulprit("()\"", -1);
        dueCulprit("\"(", -1);
        BracketHall changed = Check.holding(KINDS + "costs 9 9 4;", "([)]");
        Check.due("two changes are cheaper", changed.culprit(), -1);
        BracketHall one = Check.holding(KINDS + "costs 9 9 1;", "(]");
        Check.due("one change is cheaper", one.culprit(), -1);
        BracketHall same = Check.holding(KINDS + "costs 5 5 5;", "(]");
        Check.due("one change costs as much", same.culprit(), -1);
        Check.due("without the first", same.costWithout(0), 5);
        BracketHall hidden = Check.holding("kinds () []; quote '; costs 9 9 9;", "('')]");
        Check.due("all cost as much or more", hidden.culprit(), 4);
        Whole.dueNothing("culprit()", 5, BracketHall::culprit);
    }
}
