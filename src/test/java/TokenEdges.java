/** The tokens of setups and scripts. */
final class TokenEdges {
    private TokenEdges() {
    }

    @Says(at = "Terms", words = "In a setup and in a script, spaces (32) and line feeds (10) separate tokens "
        + "and are otherwise ignored.")
    static void spacesAndLineFeeds() {
        SetupEdges.dueRight("kinds();quote\"escape\\;note#;colours3;costs1 1\n1;");
        SetupEdges.dueRight("\n  \nkinds\n()\n\n ;\nquote \" escape\n\\ ;  colours\n3\n;\n \n");
        SetupEdges.dueError("kin ds ();", 1, 0);
        SetupEdges.dueError("kin\nds ();", 1, 0);
        SetupEdges.dueError("kinds (); costs 1 11;", 1, 20);
        SetupEdges.dueError("kinds ( ) ;", 1, 6);
        BracketHall hall = Check.holding("abc");
        Check.due("tight", Check.script(hall, "put0 40;put 4 41;want0;repair;"), 4);
        Check.due("wide", Check.script(hall, "\n\nput \n 0\n40 ;\n put 0 41\n\n;\n "), 2);
        ScriptEdges.dueError("pu t 0 40;", 0);
        ScriptEdges.dueError("put 0\t40;", 5);
        ScriptEdges.dueError("put 0\r40;", 5);
        ScriptEdges.dueError("put 040;", 7);
    }

    @Says(at = "Terms", words = "A token is a word (a maximal run of letters a to z, 1 to 7 letters)")
    static void words() {
        SetupEdges.dueRight("kinds();colours 1;");
        SetupEdges.dueError("kinds (); colourss 1;", 1, 10);
        SetupEdges.dueError("kinds (); aaaaaaaa", 1, 10);
        SetupEdges.dueError("kinds (); Colours 1;", 1, 10);
        SetupEdges.dueError("kinds (); colourS 1;", 1, 10);
        SetupEdges.dueError("kinds (); quote`;x", 1, 17);
        SetupEdges.dueError("kinds (); note{;z", 1, 16);
        SetupEdges.dueError("kindsquote ();", 1, 0);
        SetupEdges.dueRight("kinds `{;quote@;note[;");
        ScriptEdges.dueError("repairrepair;", 0);
        ScriptEdges.dueError("wantwant 0;", 0);
    }

    @Says(at = "Terms", words = "a number (a maximal run of digits, 1 to 3 digits)")
    static void numbers() {
        Check.due("colours", SetupEdges.dueRight("kinds (); colours 009;").size(5), 9);
        Check.due("colours", SetupEdges.dueRight("kinds (); colours 01;").size(5), 1);
        Check.due("DROP", SetupEdges.dueRight("kinds (); costs 099 10 1;").size(11), 99);
        SetupEdges.dueError("kinds (); colours 0009;", 1, 18);
        SetupEdges.dueError("kinds (); colours -1;", 1, 18);
        SetupEdges.dueError("kinds (); colours 1.0;", 1, 19);
        SetupEdges.dueRight("kinds /:; colours 1;");
        Check.due("three digits", Check.script(new BracketHall(), "put 000 126;want 000;"), 2);
        ScriptEdges.dueError("want 0000;", 5);
        ScriptEdges.dueError("want 1000;", 5);
        Check.due("999 wanted", Check.script(new BracketHall(), "want 999;"), -20);
    }

    @Says(at = "Terms", words = "a semicolon, or a run of signs: a maximal run of other bytes from 33 to 126 "
        + "(capital letters, too), of 1 or 2 bytes.")
    static void semicolonsAndSigns() {
        SetupEdges.dueError("kinds ();;", 1, 9);
        SetupEdges.dueError("kinds (; quote \";", 1, 6);
        SetupEdges.dueError("kinds ;;;", 1, 6);
        for (char c = 33; c <= 126; c++) {
            boolean sign = c != ';' && !(c >= '0' && c <= '9') && !(c >= 'a' && c <= 'z');
            char other = c == '(' ? ')' : '(';
            BracketHall hall = new BracketHall();
            Check.due("note " + c, Check.setup(hall, "kinds [}; note " + c + ";"),
                c == '[' || c == '}' ? 3 : sign ? 0 : 1);
            Check.due("kinds with " + c, Check.setup(hall, "kinds " + other + c + ";"), sign ? 0 : 1);
        }
    }

    @Says(at = "Terms", words = "A longer run, and any other byte, is an invalid token.")
    static void invalidTokens() {
        SetupEdges.dueError("kinds (); coloursx 3;", 1, 10);
        SetupEdges.dueError("kinds (); colours 3000;", 1, 18);
        SetupEdges.dueError("kinds () [}<;", 1, 9);
        SetupEdges.dueError("kinds ()[]{};", 1, 6);
        for (int value = 0; value < 256; value++) {
            if (value != 10 && value < 32 || value > 126) {
                SetupEdges.dueError("kinds ()" + (char) value + ";", 1, 8);
                SetupEdges.dueError("kinds (" + (char) value + ");", 1, 6);
                ScriptEdges.dueError("want 0;" + (char) value, 7);
                ScriptEdges.dueError((char) value + "want 0;", 0);
            }
        }
    }
}
