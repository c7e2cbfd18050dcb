/** How brackets are paired, and what follows from it: depths, colours, pairs within pairs. */
final class PairEdges {
    private static final String KINDS = "kinds () [] {};";

    private PairEdges() {
    }

    private static BracketHall due(String text, String partners) {
        BracketHall hall = Check.holding(KINDS, text);
        Check.dueText("partners in " + text, Check.looks(hall, 3), partners);
        return hall;
    }

    @Says(at = "Terms", words = "The brackets are gone through in order.")
    static void inOrder() {
        due(")(", "-1 -1");
        due("())", "1 0 -1");
        due("(()))", "3 2 1 0 -1");
        due("([)]", "2 -1 0 -1");
        due("[(])", "2 -1 0 -1");
    }

    @Says(at = "Terms", words = "An opening one waits.")
    static void openingOneWaits() {
        due("(a[b{c", "-1 -1 -1 -1 -1 -1");
        due("(\n\nab)", "5 -1 -1 -1 -1 0");
        BracketHall most = Check.holding("(".repeat(120) + ")".repeat(120));
        Check.due("pairs", most.size(2), 120);
        Check.due("the first one waits longest", most.look(0, 3), 239);
        Check.due("the last one", most.look(119, 3), 120);
        Check.due("240 wait", Check.holding("(".repeat(240)).size(3), 240);
    }

    @Says(at = "Terms", words = "A closing one is paired with the latest opening one of its kind that still waits")
    static void latestOfItsKind() {
        due("(()", "-1 2 1");
        due("(())", "3 2 1 0");
        due("[(](", "2 -1 0 -1");
        due("([{)", "3 -1 -1 0");
        due("(()(", "-1 2 1 -1");
        due("[[(]", "-1 3 -1 1");
        due("()()", "1 0 3 2");
    }

    @Says(at = "Terms", words = "and those that wait and are behind this one wait no more: they stay without partners")
    static void thoseBehindWaitNoMore() {
        due("([)]", "2 -1 0 -1");
        due("([{)}]", "3 -1 -1 0 -1 -1");
        due("{([)]}", "5 3 -1 1 -1 0");
        due("([){]", "2 -1 0 -1 -1");
        due("[(]){)", "2 -1 0 -1 -1 -1");
    }

    @Says(at = "Terms", words = "If none of its kind waits it stays without a partner.")
    static void noneOfItsKindWaits() {
        due(")", "-1");
        due("(]", "-1 -1");
        due("(])", "2 -1 0");
        due("[(}])", "3 -1 -1 0 -1");
        due("())(", "1 0 -1 -1");
        due("]}(]})", "-1 -1 5 -1 -1 2");
    }

    @Says(at = "Terms", words = "What still waits at the end stays without partners.")
    static void whatWaitsAtTheEnd() {
        BracketHall hall = due("((()", "-1 -1 3 2");
        Check.due("first lone one", hall.lone(0), 0);
        Check.due("second lone one", hall.lone(1), 1);
        Check.due("no third one", hall.lone(2), -1);
        due("(", "-1");
    }

    @Says(at = "Terms", words = "The DEPTH of a place is the number of pairs whose opening bracket is ahead of it, "
        + "and whose closing bracket is behind it (of a bracket its own pair does not count); "
        + "these pairs are around it.")
    static void depth() {
        String[] texts = {"a", "(a)", "x([]a)x", "((a", ")a(", "(()", "([)a]", "(\n)"};
        String[] depths = {"0", "0 1 0", "0 0 1 1 1 0 0", "0 0 0", "0 0 0", "0 0 0", "0 1 0 0 0", "0 1 0"};
        for (int i = 0; i < texts.length; i++) {
            BracketHall hall = Check.holding(KINDS, texts[i]);
            Check.dueText("depths in " + texts[i], Check.looks(hall, 4), depths[i]);
            for (int place = 0; place < hall.size(0); place++) {
                int depth = hall.look(place, 4);
                Check.due("pairs around " + place, depth == 0 || hall.around(place, depth - 1) >= 0 ? 1 : 0, 1);
                Check.due("one more around " + place, hall.around(place, depth), -1);
            }
        }
        BracketHall most = Check.holding("(".repeat(119) + "xx" + ")".repeat(119));
        Check.due("depth of a byte within 119 pairs", most.look(120, 4), 119);
        Check.due("depth of the innermost bracket", most.look(118, 4), 118);
    }

    @Says(at = "Terms", words = "The colour of a bracket with a partner is its DEPTH modulo COLOURS.")
    static void colour() {
        for (int colours = 1; colours <= 9; colours++) {
            BracketHall hall = Check.holding("(".repeat(20) + ")".repeat(20));
            hall.setColours(colours);
            for (int place = 0; place < 20; place++) {
                Check.due("colour at " + place, hall.look(place, 5), place % colours);
                Check.due("colour at " + (39 - place), hall.look(39 - place, 5), place % colours);
            }
        }
    }

    @Says(at = "Terms", words = "One pair is directly within another one if both its brackets are between those "
        + "of the other one, and no third pair is so around it and within the other one.")
    static void directlyWithin() {
        BracketHall hall = Check.holding(KINDS, "({[]}())[]");
        Check.due("first within the round ones", hall.within(0, 0), 1);
        Check.due("second within the round ones", hall.within(0, 1), 5);
        Check.due("none behind them, nor the inner square ones", hall.within(0, 2), -1);
        Check.due("within the curly ones", hall.within(1, 0), 2);
        Check.due("none within the square ones", hall.within(2, 0), -1);
        BracketHall lone = Check.holding(KINDS, "({[]x)");
        Check.due("a lone one is around nothing", lone.within(0, 0), 2);
    }
}
