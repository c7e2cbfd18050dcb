/** Promises 7 to 15: places, pairs, and the ways from one to another. */
public final class PlacesTest {
    private static final String KINDS = "kinds () [] {};";
    private static final String SIGNS = "kinds () []; quote \" escape \\; note #;";

    public static void main(String[] args) {
        look();
        pairs();
        hidden();
        linesAndColumns();
        around();
        within();
        beside();
        lone();
        count();
        widest();
        meanDepth();
        share();
        Check.finish("PlacesTest");
    }

    private static void look() {
        BracketHall hall = Check.holding(KINDS, "a([b])}");
        Check.dueText("7 byte", Check.looks(hall, 0), "97 40 91 98 93 41 125");
        Check.dueText("7 kind", Check.looks(hall, 1), "-1 0 1 -1 1 0 2");
        Check.dueText("7 opening", Check.looks(hall, 2), "-1 1 1 -1 0 0 0");
        Check.dueText("7 partner", Check.looks(hall, 3), "-1 5 4 -1 2 1 -1");
        Check.dueText("7 depth", Check.looks(hall, 4), "0 0 1 2 1 0 0");
        Check.dueText("7 colour", Check.looks(hall, 5), "-1 0 1 -1 1 0 -1");
        Check.dueText("7 hidden", Check.looks(hall, 6), "0 0 0 0 0 0 0");
        Check.dueNoPlace("7 place -1", () -> hall.look(-1, 0));
        Check.dueNoPlace("7 place 7", () -> hall.look(7, 0));
        Check.dueNoPlace("7 place is checked first", () -> hall.look(7, 9));
        Check.dueNoArgument("7 what -1", () -> hall.look(0, -1));
        Check.dueNoArgument("7 what 9", () -> hall.look(0, 9));
        BracketHall deep = Check.holding("(((((())))))");
        Check.dueText("7 colours come again", Check.looks(deep, 5), "0 1 2 0 1 2 2 1 0 2 1 0");
        deep.setColours(1);
        Check.dueText("7 one colour", Check.looks(deep, 5), "0 0 0 0 0 0 0 0 0 0 0 0");
        deep.setColours(9);
        Check.dueText("7 nine colours", Check.looks(deep, 5), "0 1 2 3 4 5 5 4 3 2 1 0");
        BracketHall lone = Check.holding("((x)");
        Check.dueText("7 a lone bracket gives no depth", Check.looks(lone, 4), "0 0 1 0");
    }

    private static void pairs() {
        BracketHall hall = Check.holding(KINDS, "([)]");
        Check.dueText("pairs do not cross", Check.looks(hall, 3), "2 -1 0 -1");
        Check.load(hall, "[(]()");
        Check.dueText("what waits behind a pair waits no more", Check.looks(hall, 3), "2 -1 0 4 3");
        Check.load(hall, "([{)}]()");
        Check.dueText("all behind the partner wait no more", Check.looks(hall, 3), "3 -1 -1 0 -1 -1 7 6");
        Check.load(hall, "(]))(");
        Check.dueText("a lone closing one ends no waiting", Check.looks(hall, 3), "2 -1 0 -1 -1");
        Check.load(hall, "(()");
        Check.dueText("the latest one is paired", Check.looks(hall, 3), "-1 2 1");
    }

    private static void hidden() {
        BracketHall hall = Check.holding(SIGNS, "(\"(\n)\")");
        Check.dueText("7 string over lines", Check.looks(hall, 6), "0 1 1 1 1 1 0");
        Check.dueText("7 hidden brackets are none", Check.looks(hall, 1), "0 -1 -1 -1 -1 -1 0");
        Check.load(hall, "\"a\\\"(\"(");
        Check.dueText("7 an escape hides the quote", Check.looks(hall, 6), "1 1 1 1 1 1 0");
        Check.load(hall, "\"\\\\\"(");
        Check.dueText("7 an escape hides an escape", Check.looks(hall, 6), "1 1 1 1 0");
        Check.load(hall, "\\\"(\"\\");
        Check.dueText("7 an escape outside is a byte like others", Check.looks(hall, 6), "0 1 1 1 0");
        Check.load(hall, "\"(\\");
        Check.dueText("7 an escape at the end", Check.looks(hall, 6), "1 1 1");
        Check.load(hall, "\"\\\n\"(");
        Check.dueText("7 an escaped line feed", Check.looks(hall, 6), "1 1 1 1 0");
        Check.load(hall, "(#(\"\n)\"#\n");
        Check.dueText("7 a note up to the end of its line", Check.looks(hall, 6), "0 2 2 2 0 0 1 1 1");
        Check.load(hall, "#\\\n(\n##\n\"#\"(#");
        Check.dueText("7 notes and strings", Check.looks(hall, 6), "2 2 0 0 0 2 2 0 1 1 1 0 2");
        Check.load(hall, "\"\"(\"\"\"");
        Check.dueText("7 empty strings", Check.looks(hall, 6), "1 1 0 1 1 1");
        BracketHall plain = Check.holding("kinds (); quote \";", "\"\\\"(");
        Check.dueText("7 no escape told", Check.looks(plain, 6), "1 1 1 0");
    }

    private static void linesAndColumns() {
        BracketHall hall = Check.holding(SIGNS, "ab\n\n\"c\nd\"e");
        Check.dueText("7 lines", Check.looks(hall, 7), "0 0 0 1 2 2 2 3 3 3");
        Check.dueText("7 columns", Check.looks(hall, 8), "0 1 2 0 0 1 2 0 1 2");
        Check.load(hall, "\n\na");
        Check.dueText("7 lines from the first byte on", Check.looks(hall, 7), "0 1 2");
        Check.dueText("7 columns from the first byte on", Check.looks(hall, 8), "0 0 0");
    }

    private static void around() {
        BracketHall hall = Check.holding(KINDS, "{(a[b)c]d}");
        Check.due("8 innermost", hall.around(4, 0), 1);
        Check.due("8 outer", hall.around(4, 1), 0);
        Check.due("8 not so many", hall.around(4, 2), -1);
        Check.due("8 largest k", hall.around(4, Integer.MAX_VALUE), -1);
        Check.due("8 k below 0", hall.around(4, -1), -1);
        Check.due("8 least k", hall.around(4, Integer.MIN_VALUE), -1);
        Check.due("8 not its own, opening", hall.around(1, 0), 0);
        Check.due("8 not its own, closing", hall.around(5, 0), 0);
        Check.due("8 a lone one is around nothing", hall.around(6, 0), 0);
        Check.due("8 around nothing", hall.around(0, 0), -1);
        Check.due("8 around nothing", hall.around(9, 0), -1);
        Check.dueNoPlace("8 place -1", () -> hall.around(-1, 0));
        Check.dueNoPlace("8 place 10", () -> hall.around(10, -1));
        BracketHall strung = Check.holding(SIGNS, "(\"(\")");
        Check.due("8 around a hidden byte", strung.around(2, 0), 0);
        Check.due("8 around a hidden byte", strung.around(2, 1), -1);
    }

    private static void within() {
        BracketHall hall = Check.holding(KINDS, "((a)[(b)]{})(()");
        Check.due("9 first", hall.within(0, 0), 1);
        Check.due("9 second", hall.within(0, 1), 4);
        Check.due("9 third", hall.within(0, 2), 9);
        Check.due("9 not so many", hall.within(0, 3), -1);
        Check.due("9 by the closing bracket", hall.within(11, 1), 4);
        Check.due("9 directly within", hall.within(4, 0), 5);
        Check.due("9 nothing within", hall.within(5, 0), -1);
        Check.due("9 k below 0", hall.within(0, -1), -1);
        Check.due("9 largest k", hall.within(0, Integer.MAX_VALUE), -1);
        Check.dueNoElement("9 no bracket", () -> hall.within(2, 0));
        Check.dueNoElement("9 no partner", () -> hall.within(12, 0));
        Check.dueNoElement("9 no partner, k below 0", () -> hall.within(12, -1));
        Check.dueNoPlace("9 place 15", () -> hall.within(15, 0));
        Check.dueNoPlace("9 place -1", () -> hall.within(-1, 0));
    }

    private static void beside() {
        BracketHall hall = Check.holding(KINDS, "(()[()]{})[](()");
        Check.due("10 next", hall.beside(1, true), 3);
        Check.due("10 next of a closing one", hall.beside(6, true), 7);
        Check.due("10 last", hall.beside(7, true), -1);
        Check.due("10 ahead", hall.beside(7, false), 3);
        Check.due("10 ahead of a closing one", hall.beside(6, false), 1);
        Check.due("10 first", hall.beside(2, false), -1);
        Check.due("10 alone within", hall.beside(4, true), -1);
        Check.due("10 alone within", hall.beside(5, false), -1);
        Check.due("10 in none", hall.beside(0, true), 10);
        Check.due("10 in none", hall.beside(9, false), -1);
        Check.due("10 past a lone one", hall.beside(10, true), 13);
        Check.due("10 past a lone one", hall.beside(14, false), 10);
        Check.dueNoElement("10 no partner", () -> hall.beside(12, true));
        Check.dueNoPlace("10 place 15", () -> hall.beside(15, true));
        Check.dueNoPlace("10 place -1", () -> hall.beside(-1, false));
        BracketHall text = Check.holding("()a()");
        Check.dueNoElement("10 no bracket", () -> text.beside(2, false));
        Check.due("10 past a byte", text.beside(0, true), 3);
        Check.due("10 the first one of all", text.beside(3, false), 0);
        Check.due("10 the last one of all", text.beside(4, true), -1);
        BracketHall cousins = Check.holding("(())(())");
        Check.due("10 not within another pair, next", cousins.beside(1, true), -1);
        Check.due("10 not within another pair, ahead", cousins.beside(5, false), -1);
    }

    private static void lone() {
        BracketHall hall = Check.holding(KINDS, ")([)]x{");
        Check.due("11 first", hall.lone(0), 0);
        Check.due("11 second", hall.lone(1), 2);
        Check.due("11 third", hall.lone(2), 4);
        Check.due("11 fourth", hall.lone(3), 6);
        Check.due("11 not so many", hall.lone(4), -1);
        Check.due("11 k below 0", hall.lone(-1), -1);
        Check.due("11 largest k", hall.lone(Integer.MAX_VALUE), -1);
        Check.due("11 hidden ones are none", Check.holding(SIGNS, "\"(").lone(0), -1);
    }

    private static void count() {
        BracketHall hall = Check.holding(KINDS, "((([)[]){{{{}[[");
        int[][] due = {{3, 2, 2}, {4, 1, 1}, {4, 1, 1}};
        for (int kind = 0; kind < 3; kind++) {
            for (int what = 0; what < 3; what++) {
                Check.due("12 count(" + kind + ", " + what + ")", hall.count(kind, what), due[kind][what]);
            }
        }
        Check.dueNoPlace("12 kind -1", () -> hall.count(-1, 0));
        Check.dueNoPlace("12 kind 3", () -> hall.count(3, 0));
        Check.dueNoPlace("12 kind is checked first", () -> hall.count(3, 3));
        Check.dueNoArgument("12 what -1", () -> hall.count(2, -1));
        Check.dueNoArgument("12 what 3", () -> hall.count(2, 3));
        Check.due("12 hidden ones are none", Check.holding(SIGNS, "\"(\"(").count(0, 0), 1);
    }

    private static void widest() {
        Check.due("13 none", new BracketHall().widest(), -1);
        Check.due("13 no pairs", Check.holding(")(").widest(), -1);
        Check.due("13 first of several", Check.holding("(a)(bc)(d)(ef)").widest(), 3);
        Check.due("13 inner ones are less wide", Check.holding("()((x))").widest(), 2);
        Check.due("13 two bytes", Check.holding(")()").widest(), 1);
        Check.due("13 the first byte", Check.holding("(a)").widest(), 0);
        Check.due("13 a wider one behind", Check.holding("x(a)(bcd)(b)").widest(), 4);
        Check.due("13 hidden bytes count", Check.holding(SIGNS, "(a)(\"(\")").widest(), 3);
    }

    private static void meanDepth() {
        Check.due("14 none", new BracketHall().meanDepth(), 0.0);
        Check.due("14 no pairs", Check.holding(")((").meanDepth(), 0.0);
        Check.due("14 one", Check.holding("((())").meanDepth(), 0.5);
        Check.due("14 thirds", Check.holding("(()())").meanDepth(), 2.0 / 3.0);
        Check.due("14 deep", Check.holding("((()))((").meanDepth(), 1.0);
    }

    private static void share() {
        Check.due("15 none", new BracketHall().share(), 1.0f);
        Check.due("15 no brackets", Check.holding("abc").share(), 1.0f);
        Check.due("15 no pairs", Check.holding(")(").share(), 0.0f);
        Check.due("15 thirds", Check.holding("()(").share(), 2.0f / 3.0f);
        Check.due("15 all", Check.holding("()()").share(), 1.0f);
        Check.due("15 sevenths", Check.holding("()()()(").share(), 6.0f / 7.0f);
    }
}
