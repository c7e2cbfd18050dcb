/** Promises 6 to 15: counts, places, and the ways from a pair to others. */
final class PlaceEdges {
    private static final String KINDS = "kinds () [] {};";

    private PlaceEdges() {
    }

    // ---- Promise 6

    @Says(at = "Promise 6", words = "Returns a count.")
    static void countsOfHall() {
        int[] due = {19, 8, 3, 2, 3, 4, 1, 3, 2, 5, 8, 6, 5, 4};
        BracketHall hall = Whole.hall();
        for (int what = 0; what < due.length; what++) {
            Check.due("size(" + what + ")", hall.size(what), due[what]);
        }
    }

    @Says(at = "Promise 6", words = "0 bytes of the text, 1 brackets, 2 pairs, 3 brackets without partners, "
        + "4 KINDS, 5 COLOURS")
    static void countsOfBrackets() {
        String[] texts = {"", "a", "(", ")(", "()", "(]", "([)]{}", "(".repeat(240), "()".repeat(120)};
        int[][] due = {{0, 0, 0, 0}, {1, 0, 0, 0}, {1, 1, 0, 1}, {2, 2, 0, 2}, {2, 2, 1, 0}, {2, 2, 0, 2},
            {6, 6, 2, 2}, {240, 240, 0, 240}, {240, 240, 120, 0}};
        for (int i = 0; i < texts.length; i++) {
            BracketHall hall = Check.holding(KINDS + "colours 9;", texts[i]);
            for (int what = 0; what < 4; what++) {
                Check.due("size(" + what + ") of " + texts[i], hall.size(what), due[i][what]);
            }
            Check.due("kinds", hall.size(4), 3);
            Check.due("colours", hall.size(5), 9);
        }
    }

    @Says(at = "Promise 6", words = "6 the greatest DEPTH of a bracket with a partner (NONE without pairs)")
    static void greatestDepth() {
        String[] texts = {"", "a", "((", ")(", "()", "(a)", "(())", "()(())()", "(((a)", "([)", "{[()]}[]"};
        int[] due = {-1, -1, -1, -1, 0, 0, 1, 1, 0, 0, 2};
        for (int i = 0; i < texts.length; i++) {
            Check.due("greatest depth in " + texts[i], Check.holding(KINDS, texts[i]).size(6), due[i]);
        }
        BracketHall most = Check.holding("(".repeat(120) + ")".repeat(120));
        Check.due("greatest depth of all", most.size(6), 119);
    }

    @Says(at = "Promise 6", words = "7 lines, 8 marks, 9 changes that can be undone, 10 hidden bytes, "
        + "11 to 13 DROP, GIVE and CHANGE")
    static void otherCounts() {
        BracketHall hall = Check.holding("kinds (); quote '; note #; costs 97 98 99;", "''(\n#a\n'");
        int[] due = {3, 0, 0, 5, 97, 98, 99};
        for (int what = 7; what <= 13; what++) {
            Check.due("size(" + what + ")", hall.size(what), due[what - 7]);
        }
        for (int n = 1; n <= 8; n++) {
            hall.mark(0);
            Check.due("marks", hall.size(8), n);
            Check.due("changes", hall.size(9), n);
        }
        Check.due("all hidden", Check.holding("kinds (); quote ';", "'".repeat(240)).size(10), 240);
    }

    @Says(at = "Promise 6", words = "Throws `IllegalArgumentException` if what is out of range")
    static void sizeOutOfRange() {
        for (int what : Whole.outside(0, 13)) {
            Whole.dueNoArgument("size(" + what + ")", h -> h.size(what));
        }
    }

    // ---- Promise 7

    @Says(at = "Promise 7", words = "Returns a property of a place of a byte.")
    static void propertiesOfAPlace() {
        BracketHall hall = Check.holding("kinds () []; quote '; colours 1;", "\n(\n[()]'('");
        int[][] due = {{91, 1, 1, 6, 1, 0, 0, 2, 0}, {93, 1, 0, 3, 1, 0, 0, 2, 3}, {40, -1, -1, -1, 1, -1, 1, 2, 5}};
        int[] places = {3, 6, 8};
        Check.insert(hall, 10, ")");
        for (int i = 0; i < places.length; i++) {
            for (int what = 0; what <= 8; what++) {
                Check.due("look(" + places[i] + ", " + what + ")", hall.look(places[i], what), due[i][what]);
            }
        }
    }

    @Says(at = "Promise 7", words = "0 the byte")
    static void lookAtBytes() {
        Check.dueText("bytes", Check.looks(Check.holding("\n ~(a"), 0), "10 32 126 40 97");
    }

    @Says(at = "Promise 7", words = "1 the kind of the bracket (NONE if it is none)")
    static void lookAtKinds() {
        BracketHall hall = Check.holding("kinds () [] {} <>; quote ';", "a(]{>'('");
        Check.dueText("kinds", Check.looks(hall, 1), "-1 0 1 2 3 -1 -1 -1");
    }

    @Says(at = "Promise 7", words = "2 1 for an opening bracket, 0 for a closing one (NONE if it is none)")
    static void lookAtSides() {
        BracketHall hall = Check.holding("kinds () [] {} <>; quote ';", "a(]{>'('");
        Check.dueText("sides", Check.looks(hall, 2), "-1 1 0 1 0 -1 -1 -1");
    }

    @Says(at = "Promise 7", words = "3 the place of the partner (NONE without)")
    static void lookAtPartners() {
        BracketHall hall = Check.holding("kinds () [] {} <>; quote ';", "(a]')')");
        Check.dueText("partners", Check.looks(hall, 3), "6 -1 -1 -1 -1 -1 0");
    }

    @Says(at = "Promise 7", words = "4 its DEPTH, 5 its colour (NONE without a partner)")
    static void lookAtDepthsAndColours() {
        BracketHall hall = Check.holding("kinds () []; quote '; colours 1;", "(a(]')'))(");
        Check.dueText("depths", Check.looks(hall, 4), "0 1 1 2 2 2 2 1 0 0");
        Check.dueText("colours", Check.looks(hall, 5), "0 -1 0 -1 -1 -1 -1 0 0 -1");
        hall.setColours(2);
        Check.dueText("two colours", Check.looks(hall, 5), "0 -1 1 -1 -1 -1 -1 1 0 -1");
    }

    @Says(at = "Promise 7", words = "6 0 if it is not hidden, 1 within a string, 2 within a note")
    static void lookAtHidden() {
        BracketHall hall = Check.holding("kinds (); quote '; note #;", "('a'#a\n)");
        Check.dueText("hidden", Check.looks(hall, 6), "0 1 1 1 2 2 0 0");
    }

    @Says(at = "Promise 7", words = "7 its line (from 0), 8 its column")
    static void lookAtLinesAndColumns() {
        BracketHall hall = Check.holding("a\n(\n\n)b");
        Check.dueText("lines", Check.looks(hall, 7), "0 0 1 1 2 3 3");
        Check.dueText("columns", Check.looks(hall, 8), "0 1 0 1 0 0 1");
    }

    @Says(at = "Promise 7", words = "Throws `IndexOutOfBoundsException` if there is no such place (checked first)")
    static void lookAtNoPlace() {
        for (int place : Whole.outside(0, Whole.LENGTH - 1)) {
            for (int what = -1; what <= 9; what++) {
                int property = what;
                Whole.dueNoPlace("look(" + place + ", " + what + ")", h -> h.look(place, property));
            }
        }
        Check.dueNoPlace("look(0, 0) in an empty text", () -> new BracketHall().look(0, 0));
        Check.dueNoPlace("look(0, 9) in an empty text", () -> new BracketHall().look(0, 9));
    }

    @Says(at = "Promise 7", words = "Throws `IllegalArgumentException` if what is out of range")
    static void lookOutOfRange() {
        for (int what : Whole.outside(0, 8)) {
            Whole.dueNoArgument("look(0, " + what + ")", h -> h.look(0, what));
            Whole.dueNoArgument("look of the last, " + what, h -> h.look(Whole.LENGTH - 1, what));
        }
    }

    // ---- Promise 8

    @Says(at = "Promise 8", words = "Returns the k-th pair that is around a place.")
    static void around() {
        BracketHall hall = Check.holding(KINDS, "{()[(a)]}b");
        int[][] due = {{-1}, {0, -1}, {0, -1}, {0, -1}, {3, 0, -1}, {4, 3, 0, -1}, {3, 0, -1}, {0, -1}, {-1}, {-1}};
        for (int place = 0; place < due.length; place++) {
            for (int k = 0; k < due[place].length; k++) {
                Check.due("around(" + place + ", " + k + ")", hall.around(place, k), due[place][k]);
            }
        }
    }

    @Says(at = "Promise 8", words = "`k`: 0 for the innermost one")
    static void innermostIsZero() {
        BracketHall hall = Check.holding("(".repeat(119) + "xx" + ")".repeat(119));
        for (int k = 0; k < 119; k++) {
            Check.due("around(119, " + k + ")", hall.around(119, k), 118 - k);
        }
    }

    @Says(at = "Promise 8", words = "Returns the place of its opening bracket; "
        + "NONE if there are not so many, or k is negative.")
    static void aroundNone() {
        BracketHall hall = Check.holding("((a)");
        Check.due("around(2, 0)", hall.around(2, 0), 1);
        for (int k : new int[] {Integer.MIN_VALUE, -1, 1, 2, Integer.MAX_VALUE}) {
            Check.due("around(2, " + k + ")", hall.around(2, k), -1);
        }
        Check.due("around(0, 0)", hall.around(0, 0), -1);
        Check.due("around a byte without pairs", Check.holding("a").around(0, 0), -1);
        Whole.dueNothing("around(2, -1)", -1, h -> h.around(2, -1));
    }

    @Says(at = "Promise 8", words = "Throws `IndexOutOfBoundsException` if there is no such place of a byte")
    static void aroundNoPlace() {
        for (int place : Whole.outside(0, Whole.LENGTH - 1)) {
            Whole.dueNoPlace("around(" + place + ", 0)", h -> h.around(place, 0));
            Whole.dueNoPlace("around(" + place + ", -1)", h -> h.around(place, -1));
        }
        Check.dueNoPlace("around(0, 0) in an empty text", () -> new BracketHall().around(0, 0));
    }

    // ---- Promise 9

    @Says(at = "Promise 9", words = "Returns the k-th pair that is directly within a pair, in order.")
    static void within() {
        BracketHall hall = Check.holding(KINDS, "(()[{}])(a())");
        int[][] due = {{1, 3, -1}, {-1}, {-1}, {4, -1}, {-1}, {-1}, {4, -1}, {1, 3, -1}, {10, -1}};
        for (int place = 0; place < due.length; place++) {
            for (int k = 0; k < due[place].length; k++) {
                Check.due("within(" + place + ", " + k + ")", hall.within(place, k), due[place][k]);
            }
        }
    }

    @Says(at = "Promise 9", words = "`place`: the place of one of its brackets")
    static void withinByEither() {
        BracketHall hall = Check.holding("(" + "()".repeat(119) + ")");
        for (int k = 0; k < 119; k++) {
            Check.due("within(0, " + k + ")", hall.within(0, k), 2 * k + 1);
            Check.due("within(239, " + k + ")", hall.within(239, k), 2 * k + 1);
        }
    }

    @Says(at = "Promise 9", words = "Returns the place of its opening bracket; "
        + "NONE if there are not so many, or k is negative.")
    static void withinNone() {
        BracketHall hall = Check.holding("(a()(b)c)()");
        Check.due("within(0, 1)", hall.within(0, 1), 4);
        for (int k : new int[] {Integer.MIN_VALUE, -1, 2, 3, Integer.MAX_VALUE}) {
            Check.due("within(0, " + k + ")", hall.within(0, k), -1);
            Check.due("within(8, " + k + ")", hall.within(8, k), -1);
        }
        Check.due("within an empty pair", hall.within(9, 0), -1);
        Check.due("within a pair without pairs", hall.within(4, 0), -1);
        Whole.dueNothing("within(0, -1)", -1, h -> h.within(0, -1));
    }

    @Says(at = "Promise 9", words = "Throws `IndexOutOfBoundsException` if there is no such place of a byte (checked first)")
    static void withinNoPlace() {
        for (int place : Whole.outside(0, Whole.LENGTH - 1)) {
            Whole.dueNoPlace("within(" + place + ", 0)", h -> h.within(place, 0));
            Whole.dueNoPlace("within(" + place + ", -1)", h -> h.within(place, -1));
        }
        Check.dueNoPlace("within(0, 0) in an empty text", () -> new BracketHall().within(0, 0));
    }

    @Says(at = "Promise 9", words = "Throws `NoSuchElementException` if there is no bracket with a partner")
    static void withinNoPair() {
        for (int place : new int[] {2, 5, 6, 8, 11, 12, 14, 18}) {
            Whole.dueNoElement("within(" + place + ", 0)", h -> h.within(place, 0));
            Whole.dueNoElement("within(" + place + ", -1)", h -> h.within(place, -1));
        }
    }

    // ---- Promise 10

    @Says(at = "Promise 10", words = "that is directly within the same pair as a pair (or both are in none)")
    static void beside() {
        BracketHall hall = Check.holding(KINDS, "((a)[()]{})a[]");
        Check.due("beside(1, true)", hall.beside(1, true), 4);
        Check.due("beside(4, true)", hall.beside(4, true), 8);
        Check.due("beside(8, true)", hall.beside(8, true), -1);
        Check.due("beside(8, false)", hall.beside(8, false), 4);
        Check.due("beside(4, false)", hall.beside(4, false), 1);
        Check.due("beside(1, false)", hall.beside(1, false), -1);
        Check.due("both in none, next", hall.beside(0, true), 12);
        Check.due("both in none, ahead", hall.beside(12, false), 0);
        Check.due("not beside one within another", hall.beside(5, true), -1);
        Check.due("not beside one within another", hall.beside(5, false), -1);
        BracketHall cousins = Check.holding("(())(())");
        Check.due("within another pair, next", cousins.beside(1, true), -1);
        Check.due("within another pair, ahead", cousins.beside(5, false), -1);
        BracketHall lone = Check.holding("()(()(a()");
        Check.due("past a lone one, next", lone.beside(0, true), 3);
        Check.due("past two lone ones", lone.beside(3, true), 7);
        Check.due("past a lone one, ahead", lone.beside(7, false), 3);
        Check.due("past a lone one, ahead", lone.beside(4, false), 0);
    }

    @Says(at = "Promise 10", words = "`place`: the place of one of its brackets")
    static void besideByEither() {
        BracketHall hall = Check.holding("()".repeat(120));
        for (int k = 0; k < 120; k++) {
            for (int place = 2 * k; place <= 2 * k + 1; place++) {
                Check.due("beside(" + place + ", true)", hall.beside(place, true), k == 119 ? -1 : 2 * k + 2);
                Check.due("beside(" + place + ", false)", hall.beside(place, false), k == 0 ? -1 : 2 * k - 2);
            }
        }
    }

    @Says(at = "Promise 10", words = "`next`: true for the next one, false for the one ahead")
    static void nextOrAhead() {
        BracketHall hall = Check.holding("()()()");
        Check.due("next", hall.beside(2, true), 4);
        Check.due("ahead", hall.beside(2, false), 0);
    }

    @Says(at = "Promise 10", words = "Returns the place of its opening bracket; NONE if there is none.")
    static void besideNone() {
        BracketHall hall = Check.holding("x(())y)(");
        for (int place = 1; place <= 4; place++) {
            Check.due("beside(" + place + ", true)", hall.beside(place, true), -1);
            Check.due("beside(" + place + ", false)", hall.beside(place, false), -1);
        }
        Whole.dueNothing("beside(16, true)", -1, h -> h.beside(16, true));
        Whole.dueNothing("beside(16, false)", 0, h -> h.beside(16, false));
    }

    @Says(at = "Promise 10", words = "Throws `IndexOutOfBoundsException` if there is no such place of a byte (checked first)")
    static void besideNoPlace() {
        for (int place : Whole.outside(0, Whole.LENGTH - 1)) {
            Whole.dueNoPlace("beside(" + place + ", true)", h -> h.beside(place, true));
            Whole.dueNoPlace("beside(" + place + ", false)", h -> h.beside(place, false));
        }
        Check.dueNoPlace("beside(0, true) in an empty text", () -> new BracketHall().beside(0, true));
    }

    @Says(at = "Promise 10", words = "Throws `NoSuchElementException` if there is no bracket with a partner")
    static void besideNoPair() {
        for (int place : new int[] {2, 5, 6, 8, 11, 12, 14, 18}) {
            Whole.dueNoElement("beside(" + place + ", true)", h -> h.beside(place, true));
            Whole.dueNoElement("beside(" + place + ", false)", h -> h.beside(place, false));
        }
    }

    // ---- Promise 11

    @Says(at = "Promise 11", words = "Returns the place of the k-th bracket without a partner.")
    static void lone() {
        BracketHall hall = Check.holding(KINDS, "a)(b)[{}(");
        Check.due("lone(0)", hall.lone(0), 1);
        Check.due("lone(1)", hall.lone(1), 5);
        Check.due("lone(2)", hall.lone(2), 8);
        BracketHall most = Check.holding(")".repeat(240));
        for (int k = 0; k < 240; k++) {
            Check.due("lone(" + k + ") of 240", most.lone(k), k);
        }
    }

    @Says(at = "Promise 11", words = "Returns the place; NONE if there are not so many, or k is negative.")
    static void loneNone() {
        BracketHall hall = Check.holding("a)(");
        for (int k : new int[] {Integer.MIN_VALUE, -1, 2, 3, Integer.MAX_VALUE}) {
            Check.due("lone(" + k + ")", hall.lone(k), -1);
        }
        Check.due("lone(240) of 240", Check.holding(")".repeat(240)).lone(240), -1);
        Check.due("in an empty text", new BracketHall().lone(0), -1);
        Check.due("without lone ones", Check.holding("a()").lone(0), -1);
        Whole.dueNothing("lone(2)", -1, h -> h.lone(2));
    }

    // ---- Promise 12

    @Says(at = "Promise 12", words = "Counts the brackets of a kind.")
    static void countOfAKind() {
        BracketHall hall = Check.holding("kinds () []; quote ';", "(()])[[['('[[](");
        int[][] due = {{3, 2, 2}, {5, 2, 1}};
        for (int kind = 0; kind < 2; kind++) {
            for (int what = 0; what < 3; what++) {
                Check.due("count(" + kind + ", " + what + ")", hall.count(kind, what), due[kind][what]);
            }
        }
    }

    @Says(at = "Promise 12", words = "`what`: 0 opening ones, 1 closing ones, 2 pairs")
    static void countOfEach() {
        for (int what = 0; what < 3; what++) {
            Check.due("of none", new BracketHall().count(0, what), 0);
            Check.due("of 120 pairs", Check.holding("()".repeat(120)).count(0, what), 120);
            Check.due("of 240 opening ones", Check.holding("(".repeat(240)).count(0, what), what == 0 ? 240 : 0);
            Check.due("of 240 closing ones", Check.holding(")".repeat(240)).count(0, what), what == 1 ? 240 : 0);
        }
    }

    @Says(at = "Promise 12", words = "Throws `IndexOutOfBoundsException` if there is no such kind (checked first)")
    static void countOfNoKind() {
        for (int kind : Whole.outside(0, 2)) {
            for (int what = -1; what <= 3; what++) {
                int which = what;
                Whole.dueNoPlace("count(" + kind + ", " + what + ")", h -> h.count(kind, which));
            }
        }
    }

    @Says(at = "Promise 12", words = "Throws `IllegalArgumentException` if what is out of range")
    static void countOutOfRange() {
        for (int what : Whole.outside(0, 2)) {
            Whole.dueNoArgument("count(0, " + what + ")", h -> h.count(0, what));
            Whole.dueNoArgument("count(2, " + what + ")", h -> h.count(2, what));
        }
    }

    // ---- Promises 13 to 15

    @Says(at = "Promise 13", words = "the pair with the most bytes from its opening to its closing bracket")
    static void widestPair() {
        Check.due("in the middle", Check.holding("(a)(abc)(ab)").widest(), 3);
        Check.due("at the end", Check.holding("(a)(ab)(abc)").widest(), 7);
        Check.due("the outer one", Check.holding("a((b))").widest(), 1);
        Check.due("not a lone one", Check.holding("(abcdef()").widest(), 7);
        Check.due("over all bytes", Check.holding("(" + "x".repeat(238) + ")").widest(), 0);
        Check.due("with hidden bytes", Check.holding("kinds (); quote ';", "(ab)('))))')").widest(), 4);
    }

    @Says(at = "Promise 13", words = "of several the first one")
    static void firstOfTheWidest() {
        Check.due("of two", Check.holding("()(a)(b)()").widest(), 2);
        Check.due("of 120", Check.holding("()".repeat(120)).widest(), 0);
    }

    @Says(at = "Promise 13", words = "NONE without pairs")
    static void widestOfNone() {
        for (String text : new String[] {"", "a", "(", ")(", "((("}) {
            Check.due("widest of " + text, Check.holding(text).widest(), -1);
        }
    }

    @Says(at = "Promise 14", words = "Returns the sum of the DEPTHs of all pairs (each once), as a double, "
        + "divided by their number, as a double")
    static void meanDepth() {
        Check.due("of one", Check.holding("()").meanDepth(), 0.0);
        Check.due("of two", Check.holding("(())").meanDepth(), 0.5);
        Check.due("of three", Check.holding("(()())").meanDepth(), 2.0 / 3.0);
        Check.due("of seven", Check.holding("((((((()))))))").meanDepth(), 3.0);
        Check.due("of 120", Check.holding("(".repeat(120) + ")".repeat(120)).meanDepth(), 59.5);
        Check.due("lone ones are no pairs", Check.holding("(((())").meanDepth(), 0.5);
        Check.due("lone ones within are no pairs", Check.holding("kinds () [];", "((]))").meanDepth(), 0.5);
        Check.due("other bytes are no pairs", Check.holding("((a)bc)d").meanDepth(), 0.5);
        Check.due("thirds", Check.holding("(())()").meanDepth(), 1.0 / 3.0);
    }

    @Says(at = "Promise 14", words = "0.0 without pairs")
    static void meanDepthOfNone() {
        for (String text : new String[] {"", "a", "(((", ")("}) {
            Check.due("mean depth of " + text, Check.holding(text).meanDepth(), 0.0);
        }
    }

    @Says(at = "Promise 15", words = "Returns the number of brackets with partners, as a float, "
        + "divided by the number of brackets, as a float")
    static void share() {
        Check.due("none of one", Check.holding("(").share(), 0.0f);
        Check.due("two of two", Check.holding("a()").share(), 1.0f);
        Check.due("two of three", Check.holding("())").share(), 2.0f / 3.0f);
        Check.due("two of 240", Check.holding("(".repeat(239) + ")").share(), 2.0f / 240.0f);
        Check.due("238 of 239", Check.holding("()".repeat(119) + "(").share(), 238.0f / 239.0f);
    }

    @Says(at = "Promise 15", words = "1.0f without brackets")
    static void shareOfNone() {
        Check.due("empty", new BracketHall().share(), 1.0f);
        Check.due("no brackets", Check.holding("a\n").share(), 1.0f);
        Check.due("hidden ones", Check.holding("kinds (); quote ';", "'(").share(), 1.0f);
    }

    // ---- Terms

    @Says(at = "Terms", words = "All numbers are integers if nothing else is said; quotients are cut.")
    static void onlyMeanAndShareAreNoIntegers() {
        BracketHall hall = Check.holding("(())(");
        Check.due("mean depth", hall.meanDepth(), 0.5);
        Check.due("share", hall.share(), 0.8f);
    }

    @Says(at = "Terms", words = "The constants: `NONE = -1`: Returned if there is no result.")
    static void none() {
        Check.due("NONE", BracketHall.NONE, -1);
        BracketHall hall = Check.holding("a");
        for (int k : new int[] {Integer.MIN_VALUE, -2, -1}) {
            Check.due("around", hall.around(0, k), BracketHall.NONE);
            Check.due("lone", hall.lone(k), BracketHall.NONE);
            Check.due("reportByte", hall.reportByte(k), BracketHall.NONE);
        }
        Check.due("widest", hall.widest(), BracketHall.NONE);
        Check.due("culprit", hall.culprit(), BracketHall.NONE);
        Check.due("undo", hall.undo(), BracketHall.NONE);
        Check.due("errorPosition", hall.errorPosition(), BracketHall.NONE);
        Check.due("greatest depth", hall.size(6), BracketHall.NONE);
        for (int what : new int[] {1, 2, 3, 5}) {
            Check.due("look(0, " + what + ")", hall.look(0, what), BracketHall.NONE);
        }
    }
}
