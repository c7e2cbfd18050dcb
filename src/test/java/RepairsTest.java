/** Promises 16 to 20: what THE REPAIR costs and does, and what it would cost without a byte. */
public final class RepairsTest {
    private static final String KINDS = "kinds () [] {};";
    private static final String SIGNS = "kinds () []; quote \" escape \\; note #;";

    public static void main(String[] args) {
        costs();
        ties();
        steps();
        stepErrors();
        costWithout();
        costWithoutHiding();
        culprit();
        culpritHiding();
        longest();
        Check.finish("RepairsTest");
    }

    private static void repairs(String setup, String text, int cost, String steps) {
        BracketHall hall = Check.holding(setup, text);
        Check.due("16 repairCost of " + text, hall.repairCost(), cost);
        Check.dueText("18 steps of " + text, Check.stepsOf(hall), steps);
        Check.due("17 repairSteps of " + text, hall.repairSteps(), steps.isEmpty() ? 0 : steps.split(" ").length);
    }

    private static void costs() {
        repairs(KINDS, "", 0, "");
        repairs(KINDS, "abc", 0, "");
        repairs(KINDS, "([{}])()", 0, "");
        repairs(KINDS, "a(", 2, "D1:0");
        repairs(KINDS, "a}", 2, "D1:2");
        repairs(KINDS + "costs 3 2 4;", "a(", 2, "G1:0");
        repairs(KINDS + "costs 3 2 4;", "a}", 2, "G1:2");
        repairs(KINDS + "costs 9 9 4;", "([)]", 8, "C2:1 C3:0");
        repairs(KINDS, "([)]", 4, "D0:0 D2:0");
        repairs(KINDS + "costs 9 8 1;", "(]", 1, "C1:0");
        repairs(KINDS + "costs 9 8 1;", "](", 16, "G0:1 G1:0");
        repairs(KINDS + "costs 2 3 1;", "{(]x}", 1, "C2:0");
        repairs(SIGNS, "(\"(\"#)", 2, "D0:0");
    }

    private static void ties() {
        repairs(KINDS + "costs 3 3 9;", "(", 3, "D0:0");
        repairs(KINDS + "costs 2 9 4;", "(]", 4, "D0:0 D1:1");
        repairs(KINDS + "costs 9 2 4;", "(]", 4, "G0:0 G1:1");
        repairs(KINDS, "(()", 2, "D0:0");
        repairs(KINDS, "())", 2, "D2:0");
        repairs(KINDS + "costs 5 5 1;", "(]]", 6, "C1:0 D2:1");
        repairs(KINDS + "costs 5 5 1;", "((]", 6, "D0:0 C2:0");
        repairs(KINDS + "costs 5 5 1;", "(])", 5, "D1:1");
    }

    private static void steps() {
        repairs(KINDS, ")}(", 6, "D0:0 D1:2 D2:0");
        repairs(KINDS + "costs 5 4 3;", "{[)(}]", 9, "C2:1 C4:0 C5:2");
        repairs(KINDS + "costs 2 3 1;", "{[x)(](}", 4, "C3:1 C5:0 D6:0");
        repairs(KINDS, "{{](}})", 6, "D2:1 D3:0 D6:0");
        repairs(KINDS, "[(]{[}(()]", 8, "D1:0 D3:2 D5:2 D6:0");
    }

    private static void stepErrors() {
        BracketHall hall = Check.holding(")x(");
        Check.due("18 act", hall.repairStep(1, 0), 0);
        Check.due("18 place", hall.repairStep(1, 1), 2);
        Check.due("18 kind", hall.repairStep(1, 2), 0);
        Check.dueNoElement("18 step -1", () -> hall.repairStep(-1, 0));
        Check.dueNoElement("18 step 2", () -> hall.repairStep(2, 0));
        Check.dueNoElement("18 step is checked first", () -> hall.repairStep(2, 3));
        Check.dueNoArgument("18 what -1", () -> hall.repairStep(1, -1));
        Check.dueNoArgument("18 what 3", () -> hall.repairStep(1, 3));
    }

    private static void costWithout() {
        BracketHall hall = Check.holding(KINDS, "(a[)]");
        Check.due("19 cost", hall.repairCost(), 4);
        int[] due = {2, 4, 2, 2, 2};
        for (int place = 0; place < due.length; place++) {
            Check.due("19 costWithout(" + place + ")", hall.costWithout(place), due[place]);
        }
        Check.due("19 the text stays", hall.size(0), 5);
        Check.due("19 the cost stays", hall.repairCost(), 4);
        Check.dueText("19 the steps stay", Check.stepsOf(hall), "D0:0 D3:0");
        Check.dueText("19 the pairs stay", Check.looks(hall, 3), "3 -1 -1 0 -1");
        Check.dueNoPlace("19 place -1", () -> hall.costWithout(-1));
        Check.dueNoPlace("19 place 5", () -> hall.costWithout(5));
        Check.dueNoPlace("19 no byte", () -> new BracketHall().costWithout(0));
    }

    private static void costWithoutHiding() {
        BracketHall quoted = Check.holding(SIGNS, "\"((\"");
        Check.due("19 without the first quote", quoted.costWithout(0), 4);
        Check.due("19 without the last quote", quoted.costWithout(3), 0);
        Check.due("19 without a hidden byte", quoted.costWithout(1), 0);
        BracketHall escaped = Check.holding(SIGNS, "\"\\\"((\"");
        Check.due("19 without the escape", escaped.costWithout(1), 4);
        Check.due("19 without the escaped byte", escaped.costWithout(2), 0);
        BracketHall noted = Check.holding(SIGNS, "#(\n((");
        Check.due("19 cost", noted.repairCost(), 4);
        Check.due("19 without the note sign", noted.costWithout(0), 6);
        Check.due("19 without the line feed", noted.costWithout(2), 0);
        BracketHall newlyHidden = Check.holding(SIGNS, "\"\\a\"(");
        Check.due("19 the escape hides the next byte then", newlyHidden.costWithout(2), 0);
        Check.due("19 cost", newlyHidden.repairCost(), 2);
    }

    private static void culprit() {
        Check.due("20 empty", new BracketHall().culprit(), -1);
        Check.due("20 nothing to repair", Check.holding("(a)").culprit(), -1);
        Check.due("20 lone one", Check.holding("()a)").culprit(), 1);
        Check.due("20 first of several", Check.holding("a((").culprit(), 1);
        Check.due("20 first of three", Check.holding("a(((").culprit(), 1);
        Check.due("20 within two pairs", Check.holding("kinds () [] {};", "x[(y{)]]").culprit(), 4);
        Check.due("20 behind a pair", Check.holding("kinds () [];", "()[").culprit(), 2);
        Check.due("20 within a pair", Check.holding("kinds () [];", "([)").culprit(), 1);
        Check.due("20 no brackets", Check.holding("abc").culprit(), -1);
        BracketHall hall = Check.holding("kinds () []; costs 9 9 4;", "([)]");
        Check.due("20 none makes it cost less", hall.culprit(), -1);
        Check.due("20 the cost stays", hall.repairCost(), 8);
        Check.dueText("20 the steps stay", Check.stepsOf(hall), "C2:1 C3:0");
    }

    private static void culpritHiding() {
        Check.due("20 a quote", Check.holding(SIGNS, "((\"))").culprit(), 2);
        Check.due("20 an escape", Check.holding(SIGNS, "((\"\\\"))").culprit(), 3);
        Check.due("20 an escaped byte", Check.holding(SIGNS, "\"(\\a\"((").culprit(), 3);
        Check.due("20 a note sign", Check.holding(SIGNS, "((#))").culprit(), 2);
        Check.due("20 a line feed", Check.holding(SIGNS, "#\n((").culprit(), 1);
        Check.due("20 the first of a bracket and a quote", Check.holding(SIGNS, "(\")").culprit(), 0);
        Check.due("20 the first of a quote and a bracket", Check.holding(SIGNS, "\"\"(").culprit(), 0);
        Check.due("20 a quote without use", Check.holding(SIGNS, "()\"").culprit(), -1);
    }

    private static void longest() {
        BracketHall open = Check.holding("(".repeat(240));
        Check.due("16 all open", open.repairCost(), 480);
        Check.due("17 all open", open.repairSteps(), 240);
        Check.due("20 all open", open.culprit(), 0);
        Check.due("18 last step", open.repairStep(239, 1), 239);
        open.setCosts(99, 99, 99);
        Check.due("16 dearest", open.repairCost(), 23760);
        Check.due("19 dearest", open.costWithout(239), 23661);
        BracketHall both = Check.holding("(".repeat(120) + ")".repeat(120));
        Check.due("16 all paired", both.repairCost(), 0);
        Check.due("20 all paired", both.culprit(), -1);
        Check.due("6 deepest", both.size(6), 119);
        BracketHall mixed = Check.holding("kinds () []; costs 9 9 1;", "(".repeat(120) + "]".repeat(120));
        Check.due("16 all changed", mixed.repairCost(), 120);
        Check.due("17 all changed", mixed.repairSteps(), 120);
        Check.due("18 last change", mixed.repairStep(119, 2), 0);
    }
}
