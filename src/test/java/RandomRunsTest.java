import java.util.ArrayList;
import java.util.List;
import java.util.Random;

/** Long runs of calls, drawn by fixed seeds, on the class and on the document's plainest reading at once. */
public final class RandomRunsTest {
    private static final int RUNS = 1500;
    private static final int CALLS = 512;
    private static final int[] EDGES = {-1, 0, 1, Integer.MIN_VALUE, Integer.MAX_VALUE, 240, 241, 600, 601};

    private final Random random;
    private final BracketHall hall = new BracketHall();
    private final NaiveHall naive = new NaiveHall();
    private final List<String> calls = new ArrayList<>();
    private final int run;
    private final int textLength;
    private boolean failed = false;

    private RandomRunsTest(int run) {
        this.run = run;
        random = new Random(run);
        int[] lengths = {4, 8, 14, 24, 40, 230};
        // Long texts are dear for the plain reading, and so are rare.
        textLength = run % 60 == 59 ? lengths[5] : lengths[run % 5];
    }

    public static void main(String[] args) {
        for (int run = 0; run < RUNS; run++) {
            new RandomRunsTest(run).play();
        }
        Check.finish("RandomRunsTest");
    }

    private void play() {
        int most = textLength > 100 ? CALLS / 8 : CALLS;
        if (run % 7 != 0) {
            feed(validSetup());
        }
        for (int n = 0; n < most && !failed; n++) {
            call();
        }
        Check.due("run " + run, failed ? 1 : 0, 0);
    }

    private boolean chance(int in) {
        return random.nextInt(in) == 0;
    }

    private int number(int from, int to) {
        return from + random.nextInt(to - from + 1);
    }

    private int place() {
        if (chance(30)) {
            return EDGES[random.nextInt(EDGES.length)];
        }
        return number(0, naive.size(0));
    }

    private int small(int most) {
        return chance(25) ? EDGES[random.nextInt(EDGES.length)] : number(-1, most + 1);
    }

    // ---- the calls

    private void call() {
        switch (random.nextInt(12)) {
            case 0, 1: lookAround(); break;
            case 2: goAlong(); break;
            case 3: askRepairs(); break;
            case 4, 5, 6: change(); break;
            case 7: texts(); break;
            case 8: scripts(); break;
            case 9: history(); break;
            case 10: marksAndReports(); break;
            default: counts(); break;
        }
    }

    private void lookAround() {
        int place = place();
        int what = chance(4) ? small(8) : number(0, 8);
        int k = small(3);
        same("look(" + place + ", " + what + ")", () -> hall.look(place, what), () -> naive.look(place, what));
        same("around(" + place + ", " + k + ")", () -> hall.around(place, k), () -> naive.around(place, k));
    }

    private void goAlong() {
        int place = place();
        int k = small(3);
        boolean next = random.nextBoolean();
        same("within(" + place + ", " + k + ")", () -> hall.within(place, k), () -> naive.within(place, k));
        same("beside(" + place + ", " + next + ")", () -> hall.beside(place, next), () -> naive.beside(place, next));
        same("lone(" + k + ")", () -> hall.lone(k), () -> naive.lone(k));
    }

    private void askRepairs() {
        int place = place();
        int k = small(4);
        int what = small(2);
        same("costWithout(" + place + ")", () -> hall.costWithout(place), () -> naive.costWithout(place));
        same("repairStep(" + k + ", " + what + ")", () -> hall.repairStep(k, what), () -> naive.repairStep(k, what));
        if (textLength <= 24 || chance(20)) {
            same("culprit()", hall::culprit, naive::culprit);
        }
        sameSteps();
    }

    private void counts() {
        int what = small(13);
        int kind = small(3);
        int which = small(2);
        same("size(" + what + ")", () -> hall.size(what), () -> naive.size(what));
        same("count(" + kind + ", " + which + ")", () -> hall.count(kind, which), () -> naive.count(kind, which));
        same("widest()", hall::widest, naive::widest);
        same("meanDepth()", hall::meanDepth, naive::meanDepth);
        same("share()", hall::share, naive::share);
    }

    private void marksAndReports() {
        int mark = small(7);
        int place = place();
        switch (random.nextInt(4)) {
            case 0: same("markAt(" + mark + ")", () -> hall.markAt(mark), () -> naive.markAt(mark)); break;
            case 1: same("report()", hall::report, naive::report); break;
            case 2: same("mark(" + place + ")", () -> hall.mark(place), () -> naive.mark(place)); break;
            default: same("unmark(" + mark + ")", () -> hall.unmark(mark), () -> naive.unmark(mark)); break;
        }
        same("reportByte(" + place + ")", () -> hall.reportByte(place), () -> naive.reportByte(place));
    }

    private void change() {
        int from = place();
        int to = chance(3) ? place() : Math.max(from, Math.min(from + random.nextInt(3), naive.size(0)));
        int kind = small(3);
        switch (random.nextInt(8)) {
            case 0: same("erase(" + from + ", " + to + ")", () -> hall.erase(from, to), () -> naive.erase(from, to)); break;
            case 1: same("wrap(" + from + ", " + to + ", " + kind + ")", () -> hall.wrap(from, to, kind), () -> naive.wrap(from, to, kind)); break;
            case 2: same("unwrap(" + from + ")", () -> hall.unwrap(from), () -> naive.unwrap(from)); break;
            case 3: if (chance(3)) same("repair()", hall::repair, naive::repair); break;
            case 4: same("setColours(" + kind + ")", () -> hall.setColours(kind), () -> naive.setColours(kind)); break;
            case 5: changeCosts(); break;
            default: feed(text(random.nextInt(5))); insert(from); break;
        }
        sameState();
    }

    private void changeCosts() {
        int most = chance(3) ? 99 : 9;
        int drop = small(most);
        int give = small(most);
        int change = small(most);
        same("setCosts(" + drop + ", " + give + ", " + change + ")",
            () -> hall.setCosts(drop, give, change), () -> naive.setCosts(drop, give, change));
    }

    private void insert(int place) {
        int length = lengthOfInput();
        same("insert(" + place + ", " + length + ")", () -> hall.insert(place, length), () -> naive.insert(place, length));
    }

    private void texts() {
        if (chance(6)) {
            String setup = chance(3) ? validSetup() : mutated(validSetup());
            feed(setup);
            int length = lengthOfInput();
            same("setup(" + length + ") of " + setup, () -> hall.setup(length), () -> naive.setup(length));
        } else if (chance(4)) {
            feed(text(textLength));
            int length = lengthOfInput();
            same("load(" + length + ")", () -> hall.load(length), () -> naive.load(length));
        }
        same("errorPosition()", hall::errorPosition, naive::errorPosition);
        sameState();
    }

    private void scripts() {
        String script = validScript();
        if (chance(4)) {
            script = mutated(script);
        }
        feed(script);
        int length = lengthOfInput();
        same("script(" + length + ") of " + script, () -> hall.script(length), () -> naive.script(length));
        same("errorPosition()", hall::errorPosition, naive::errorPosition);
        sameState();
    }

    private void history() {
        int slot = chance(6) ? small(1) : number(0, 1);
        switch (random.nextInt(5)) {
            case 0: same("saveSnapshot(" + slot + ")", () -> hall.saveSnapshot(slot) ? 1 : 0, () -> naive.saveSnapshot(slot) ? 1 : 0); break;
            case 1: same("restoreSnapshot(" + slot + ")", () -> hall.restoreSnapshot(slot), () -> naive.restoreSnapshot(slot)); break;
            default: same("undo()", hall::undo, naive::undo); break;
        }
        sameState();
    }

    // ---- texts drawn

    private String text(int most) {
        String signs = "()()()[][]{}<>AB\"\"\\\\##\n\n.x \"'~";
        StringBuilder text = new StringBuilder();
        int length = most > 100 ? number(most - 20, most + 11) : random.nextInt(most + 1);
        int width = number(2, signs.length());
        for (int i = 0; i < length; i++) {
            text.append(signs.charAt(random.nextInt(width)));
        }
        if (chance(25) && length > 0) {
            text.setCharAt(random.nextInt(length), (char) (new int[] {9, 11, 31, 127, 128, 255, 0})[random.nextInt(7)]);
        }
        return text.toString();
    }

    private String blank() {
        return chance(8) ? "\n " : " ";
    }

    private String validSetup() {
        String[] kinds = {"()", "[]", "{}", "<>", "AB", "()", "()"};
        StringBuilder setup = new StringBuilder("kinds");
        int count = chance(12) ? 5 : number(1, 4);
        for (int kind = 0; kind < count; kind++) {
            setup.append(blank()).append(chance(20) ? kinds[random.nextInt(7)] : kinds[kind]);
        }
        setup.append(";");
        String[] ones = {"\"", "\\", "#", "'", "~", "("};
        for (int n = random.nextInt(5); n > 0; n--) {
            String one = chance(8) ? ones[random.nextInt(6)] : null;
            switch (random.nextInt(5)) {
                case 0: setup.append("colours ").append(number(chance(9) ? 0 : 1, chance(9) ? 12 : 9)); break;
                case 1: setup.append("costs ").append(cost()).append(blank()).append(cost()).append(blank()).append(cost()); break;
                case 2: setup.append("note ").append(one == null ? "#" : one); break;
                default:
                    setup.append("quote ").append(one == null ? "\"" : one);
                    if (!chance(3)) {
                        setup.append(" escape ").append(chance(9) ? ones[random.nextInt(6)] : "\\");
                    }
            }
            setup.append(blank()).append(";");
        }
        return setup.toString();
    }

    private int cost() {
        return chance(20) ? number(0, 105) : number(1, 9);
    }

    private String validScript() {
        String[] verbs = {"erase", "put", "swap", "wrap", "repair", "want"};
        StringBuilder script = new StringBuilder();
        int length = naive.size(0);
        for (int n = random.nextInt(chance(4) ? 12 : 4); n > 0; n--) {
            String verb = verbs[random.nextInt(6)];
            int a = number(0, chance(9) ? length + 2 : length);
            int b = Math.min(a + random.nextInt(3), length);
            script.append(verb);
            switch (verb) {
                case "put": script.append(" " + a + " " + (chance(15) ? number(0, 140) : "()[]{}#\"\\\nx".charAt(random.nextInt(11)) + 0)); break;
                case "wrap": script.append(blank() + a + " " + b + " " + number(0, chance(9) ? 4 : 0)); break;
                case "repair": break;
                case "want": script.append(" " + (chance(5) ? random.nextInt(3) : naive.size(3))); break;
                default: script.append(" " + a + blank() + (chance(15) ? number(0, 999) : b)); break;
            }
            script.append(";").append(chance(3) ? blank() : "");
            length += chance(3) ? 1 : 0;
        }
        return script.toString();
    }

    private String mutated(String text) {
        String odd = ";; 0179aez()[]#\"\\AZ~\n\t" + (char) 127 + (char) 200;
        StringBuilder mutated = new StringBuilder(text);
        for (int n = number(1, 2); n > 0 && mutated.length() > 0; n--) {
            int at = random.nextInt(mutated.length());
            char c = odd.charAt(random.nextInt(odd.length()));
            switch (random.nextInt(4)) {
                case 0: mutated.deleteCharAt(at); break;
                case 1: mutated.setCharAt(at, c); break;
                case 2: mutated.insert(at, c); break;
                default: mutated.setLength(at); break;
            }
        }
        return mutated.toString();
    }

    private int fed = 0;

    private void feed(String text) {
        fed = text.length();
        for (int from = 0; from < text.length(); from += 20) {
            int[] fours = new int[5];
            for (int i = 0; i < 20; i++) {
                char c = from + i < text.length() ? text.charAt(from + i) : ' ';
                fours[i / 4] = fours[i / 4] << 8 | c;
            }
            same("append(" + fours[0] + ", ..)", () -> hall.append(fours[0], fours[1], fours[2], fours[3], fours[4]),
                () -> naive.append(fours[0], fours[1], fours[2], fours[3], fours[4]));
        }
    }

    private int lengthOfInput() {
        return chance(20) ? small(20) : fed;
    }

    // ---- both held against each other

    private void same(String call, Check.Call ours, Check.Call theirs) {
        if (failed) {
            return;
        }
        calls.add(call);
        dueSame(call, answer(ours), answer(theirs));
    }

    private static String answer(Check.Call call) {
        try {
            return String.valueOf(call.answer());
        } catch (RuntimeException e) {
            return e.getClass().getName();
        }
    }

    private void dueSame(String call, String got, String want) {
        if (got.equals(want) || failed) {
            return;
        }
        failed = true;
        System.out.println("run " + run + ": " + call + " answered " + got + ", due is " + want + ", behind");
        System.out.println(calls.subList(Math.max(0, calls.size() - 30), calls.size()));
    }

    private void sameSteps() {
        int steps = naive.repairSteps();
        same("repairCost()", hall::repairCost, naive::repairCost);
        same("repairSteps()", hall::repairSteps, naive::repairSteps);
        for (int k = 0; k < Math.min(steps, 8) && !failed; k++) {
            int step = k;
            for (int what = 0; what < 3; what++) {
                int property = what;
                same("repairStep(" + step + ", " + property + ")",
                    () -> hall.repairStep(step, property), () -> naive.repairStep(step, property));
            }
        }
    }

    private void sameState() {
        int[] cheap = {0, 4, 5, 8, 9, 11, 12, 13};
        for (int what : cheap) {
            same("size(" + what + ")", () -> hall.size(what), () -> naive.size(what));
        }
        for (int mark = 0; mark < naive.size(8); mark++) {
            int number = mark;
            same("markAt(" + number + ")", () -> hall.markAt(number), () -> naive.markAt(number));
        }
        for (int place = 0; place < naive.size(0); place++) {
            int here = place;
            same("look(" + here + ", 0)", () -> hall.look(here, 0), () -> naive.look(here, 0));
        }
        if (textLength <= 40 && chance(4)) {
            for (int what = 0; what <= 8; what++) {
                for (int place = 0; place < naive.size(0); place++) {
                    int here = place;
                    int property = what;
                    same("look(" + here + ", " + property + ")",
                        () -> hall.look(here, property), () -> naive.look(here, property));
                }
            }
        }
    }
}
