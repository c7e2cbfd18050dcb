/** What the tests share: answers held against those that are due, and texts put into the input buffer. */
final class Check {
    private static int right = 0;
    private static int wrong = 0;
    private static String about = "";

    interface Call {
        double answer();
    }

    private Check() {
    }

    /** What the next answers are about; it is told ahead of each wrong one. */
    static void about(String subject) {
        about = subject;
    }

    /** The number of answers that have been held against those that are due. */
    static int asked() {
        return right + wrong;
    }

    static void due(String call, double got, double want) {
        if (got == want) {
            right++;
        } else {
            wrong++;
            System.out.println(about + call + " answered " + got + ", due is " + want);
        }
    }

    static void dueText(String call, String got, String want) {
        if (got.equals(want)) {
            right++;
        } else {
            wrong++;
            System.out.println(about + call + " answered <" + got + ">, due is <" + want + ">");
        }
    }

    static void dueThrow(String call, Class<? extends RuntimeException> want, Call asked) {
        String got;
        try {
            got = String.valueOf(asked.answer());
        } catch (RuntimeException e) {
            got = e.getClass().getName();
        }
        dueText(call, got, want.getName());
    }

    static void dueNoPlace(String call, Call asked) {
        dueThrow(call, IndexOutOfBoundsException.class, asked);
    }

    static void dueNoArgument(String call, Call asked) {
        dueThrow(call, IllegalArgumentException.class, asked);
    }

    static void dueNoElement(String call, Call asked) {
        dueThrow(call, java.util.NoSuchElementException.class, asked);
    }

    static void dueNoState(String call, Call asked) {
        dueThrow(call, IllegalStateException.class, asked);
    }

    /** Ends the test, with exit code 1 if an answer was wrong. */
    static void finish(String test) {
        System.out.println(test + ": " + right + " answers right, " + wrong + " wrong");
        if (wrong != 0 || right == 0) {
            System.exit(1);
        }
    }

    /** Appends a text of characters 0 to 255, filled up with spaces; returns its length. */
    static int feed(BracketHall hall, String text) {
        for (int from = 0; from < text.length(); from += 20) {
            int[] fours = new int[5];
            for (int i = 0; i < 20; i++) {
                char c = from + i < text.length() ? text.charAt(from + i) : ' ';
                fours[i / 4] = fours[i / 4] << 8 | c;
            }
            hall.append(fours[0], fours[1], fours[2], fours[3], fours[4]);
        }
        return text.length();
    }

    static int setup(BracketHall hall, String text) {
        return hall.setup(feed(hall, text));
    }

    static int load(BracketHall hall, String text) {
        return hall.load(feed(hall, text));
    }

    static int insert(BracketHall hall, int place, String text) {
        return hall.insert(place, feed(hall, text));
    }

    static int script(BracketHall hall, String text) {
        return hall.script(feed(hall, text));
    }

    static BracketHall holding(String text) {
        BracketHall hall = new BracketHall();
        load(hall, text);
        return hall;
    }

    static BracketHall holding(String setup, String text) {
        BracketHall hall = new BracketHall();
        due("setup " + setup, setup(hall, setup), 0);
        load(hall, text);
        return hall;
    }

    static String textOf(BracketHall hall) {
        StringBuilder text = new StringBuilder();
        for (int place = 0; place < hall.size(0); place++) {
            text.append((char) hall.look(place, 0));
        }
        return text.toString();
    }

    static String marksOf(BracketHall hall) {
        StringBuilder marks = new StringBuilder();
        for (int mark = 0; mark < hall.size(8); mark++) {
            marks.append(mark == 0 ? "" : " ").append(hall.markAt(mark));
        }
        return marks.toString();
    }

    static String reportOf(BracketHall hall) {
        StringBuilder report = new StringBuilder();
        int length = hall.report();
        for (int index = 0; index < length; index++) {
            report.append((char) hall.reportByte(index));
        }
        return report.toString();
    }

    /** A property of all places, a word each. */
    static String looks(BracketHall hall, int what) {
        StringBuilder looks = new StringBuilder();
        for (int place = 0; place < hall.size(0); place++) {
            looks.append(place == 0 ? "" : " ").append(hall.look(place, what));
        }
        return looks.toString();
    }

    /** The steps of THE REPAIR, as D, G or C, the place and the kind. */
    static String stepsOf(BracketHall hall) {
        StringBuilder steps = new StringBuilder();
        for (int k = 0; k < hall.repairSteps(); k++) {
            steps.append(k == 0 ? "" : " ").append("DGC".charAt(hall.repairStep(k, 0)));
            steps.append(hall.repairStep(k, 1)).append(':').append(hall.repairStep(k, 2));
        }
        return steps.toString();
    }
}
