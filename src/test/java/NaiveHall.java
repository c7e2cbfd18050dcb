import java.util.ArrayList;
import java.util.Arrays;
import java.util.HashMap;
import java.util.List;
import java.util.Map;
import java.util.NoSuchElementException;

/**
 * The document once more, read as plainly as it can be and with no care for speed: what random runs
 * of calls on the class are held against.
 */
final class NaiveHall {
    /** The text, the marks, COLOURS and the costs. */
    static final class State {
        String text = "";
        List<Integer> marks = new ArrayList<>();
        int colours = 3;
        int drop = 2;
        int give = 3;
        int change = 4;

        State copy() {
            State copy = new State();
            copy.text = text;
            copy.marks = new ArrayList<>(marks);
            copy.colours = colours;
            copy.drop = drop;
            copy.give = give;
            copy.change = change;
            return copy;
        }

        void put(int place, String bytes) {
            text = text.substring(0, place) + bytes + text.substring(place);
            marks.replaceAll(m -> m >= place ? m + bytes.length() : m);
        }

        void take(int from, int to) {
            text = text.substring(0, from) + text.substring(to);
            marks.replaceAll(m -> m > to ? m - (to - from) : m >= from ? from : m);
        }
    }

    /** The signs that a setup tells; -1 for a quote, an escape or a note that is not told. */
    static final class Signs {
        List<String> kinds = new ArrayList<>();
        int quote = -1;
        int escape = -1;
        int note = -1;

        boolean told(char sign) {
            return String.join("", kinds).indexOf(sign) >= 0 || sign == quote || sign == escape || sign == note;
        }
    }

    /** A bracket that is not hidden. */
    record Bracket(int place, int kind, boolean opening) {
    }

    record Pair(int open, int close) {
        boolean isAround(int place) {
            return open < place && place < close;
        }

        boolean isAround(Pair pair) {
            return isAround(pair.open) && isAround(pair.close);
        }
    }

    /** A step of a repair; a repair is a cost and a chain of steps. */
    record Step(int act, int place, int kind, boolean opening) {
    }

    record Repair(int cost, List<Step> steps) {
    }

    record Token(String sort, String text, int start) {
    }

    static final class Wrong extends RuntimeException {
        final int code;
        final int position;

        Wrong(int code, int position) {
            this.code = code;
            this.position = position;
        }
    }

    private String buffer = "";
    private Signs signs = new Signs();
    private State state = new State();
    private List<State> past = new ArrayList<>();
    private final State[] slots = new State[2];
    private String report = "";
    private int errorPosition = -1;

    NaiveHall() {
        signs.kinds.add("()");
    }

    int append(int a, int b, int c, int d, int e) {
        if (buffer.length() + 20 > 600) {
            return -1;
        }
        for (int four : new int[] {a, b, c, d, e}) {
            for (int i = 3; i >= 0; i--) {
                buffer += (char) (four >> 8 * i & 255);
            }
        }
        return buffer.length();
    }

    private String takeInput(int length) {
        if (length < 0 || length > buffer.length()) {
            throw new IllegalArgumentException();
        }
        String taken = buffer.substring(0, length);
        buffer = "";
        return taken;
    }

    private static int refusal(String bytes, int total) {
        if (total > 240) {
            return -2;
        }
        return bytes.chars().allMatch(NaiveHall::canBeInText) ? 0 : -3;
    }

    private static boolean canBeInText(int value) {
        return value == 10 || value >= 32 && value <= 126;
    }

    // ---- tokens

    private static List<Token> tokensOf(String text) {
        List<Token> tokens = new ArrayList<>();
        int at = 0;
        while (at < text.length()) {
            char first = text.charAt(at);
            String sort = sortOf(first);
            int start = at++;
            if (sort.equals("blank")) {
                continue;
            }
            if (!sort.equals("bad") && !sort.equals(";")) {
                while (at < text.length() && sortOf(text.charAt(at)).equals(sort)) {
                    at++;
                }
            }
            int longest = Map.of("word", 7, "number", 3, "signs", 2, ";", 1, "bad", 1).get(sort);
            tokens.add(new Token(at - start > longest ? "bad" : sort, text.substring(start, at), start));
        }
        tokens.add(new Token("end", "", text.length()));
        return tokens;
    }

    private static String sortOf(char c) {
        if (c == ' ' || c == '\n') {
            return "blank";
        }
        if (c >= 'a' && c <= 'z') {
            return "word";
        }
        if (c >= '0' && c <= '9') {
            return "number";
        }
        if (c == ';') {
            return ";";
        }
        return c >= 33 && c <= 126 ? "signs" : "bad";
    }

    private List<Token> rest;

    private Token peek() {
        return rest.get(0);
    }

    private Token next() {
        return rest.remove(0);
    }

    private boolean isWord(String word) {
        return peek().sort.equals("word") && peek().text.equals(word);
    }

    private Token need(String sort, int length) {
        Token token = peek();
        if (!token.sort.equals(sort) || length > 0 && token.text.length() != length) {
            throw new Wrong(1, token.start);
        }
        return next();
    }

    private int needNumber(int least, int most) {
        Token token = need("number", 0);
        int value = Integer.parseInt(token.text);
        if (value < least || value > most) {
            throw new Wrong(2, token.start);
        }
        return value;
    }

    private char needSign(Signs told) {
        Token token = need("signs", 1);
        if (told.told(token.text.charAt(0))) {
            throw new Wrong(3, token.start);
        }
        return token.text.charAt(0);
    }

    // ---- texts

    int setup(int length) {
        String text = takeInput(length);
        rest = tokensOf(text);
        Signs told = new Signs();
        State first = new State();
        try {
            parseSetup(told, first);
        } catch (Wrong wrong) {
            errorPosition = wrong.position;
            return wrong.code;
        }
        errorPosition = -1;
        signs = told;
        state = first;
        startAnew();
        return 0;
    }

    private void startAnew() {
        past.clear();
        Arrays.fill(slots, null);
    }

    private void parseSetup(Signs told, State first) {
        if (!isWord("kinds")) {
            throw new Wrong(1, peek().start);
        }
        next();
        do {
            Token two = need("signs", 2);
            char opening = two.text.charAt(0);
            char closing = two.text.charAt(1);
            if (opening == closing || told.told(opening) || told.told(closing)) {
                throw new Wrong(3, two.start);
            }
            if (told.kinds.size() == 4) {
                throw new Wrong(4, two.start);
            }
            told.kinds.add(two.text);
        } while (!peek().sort.equals(";"));
        next();
        while (!peek().sort.equals("end")) {
            parseStatement(told, first);
            need(";", 0);
        }
    }

    private void parseStatement(Signs told, State first) {
        Token word = need("word", 0);
        switch (word.text) {
            case "quote" -> {
                if (told.quote >= 0) {
                    throw new Wrong(4, word.start);
                }
                told.quote = needSign(told);
                if (isWord("escape")) {
                    next();
                    told.escape = needSign(told);
                }
            }
            case "note" -> {
                if (told.note >= 0) {
                    throw new Wrong(4, word.start);
                }
                told.note = needSign(told);
            }
            case "colours" -> first.colours = needNumber(1, 9);
            case "costs" -> {
                first.drop = needNumber(1, 99);
                first.give = needNumber(1, 99);
                first.change = needNumber(1, 99);
            }
            default -> throw new Wrong(1, word.start);
        }
    }

    int load(int length) {
        String text = takeInput(length);
        int refusal = refusal(text, text.length());
        if (refusal < 0) {
            return refusal;
        }
        state = state.copy();
        state.text = text;
        state.marks.clear();
        startAnew();
        return brackets(text).size();
    }

    int errorPosition() {
        return errorPosition;
    }

    int size(int what) {
        int bracketCount = brackets(state.text).size();
        List<Pair> pairs = pairs();
        switch (what) {
            case 0: return state.text.length();
            case 1: return bracketCount;
            case 2: return pairs.size();
            case 3: return bracketCount - 2 * pairs.size();
            case 4: return signs.kinds.size();
            case 5: return state.colours;
            case 6: return pairs.stream().mapToInt(p -> depth(p.open)).max().orElse(-1);
            case 7: return state.text.split("\n", -1).length;
            case 8: return state.marks.size();
            case 9: return past.size();
            case 10: return (int) Arrays.stream(hiding(state.text)).filter(h -> h != 0).count();
            case 11: return state.drop;
            case 12: return state.give;
            case 13: return state.change;
            default: throw new IllegalArgumentException();
        }
    }

    // ---- places and pairs

    /** For each byte 0 if it is not hidden, 1 within a string, 2 within a note. */
    private int[] hiding(String text) {
        int[] hiding = new int[text.length()];
        int at = 0;
        while (at < text.length()) {
            int end = at + 1;
            if (text.charAt(at) == signs.quote) {
                while (end < text.length() && text.charAt(end) != signs.quote) {
                    end += text.charAt(end) == signs.escape ? 2 : 1;
                }
                end = Math.min(end + 1, text.length());
                Arrays.fill(hiding, at, end, 1);
            } else if (text.charAt(at) == signs.note) {
                end = text.indexOf('\n', at) < 0 ? text.length() : text.indexOf('\n', at);
                Arrays.fill(hiding, at, end, 2);
            }
            at = end;
        }
        return hiding;
    }

    private List<Bracket> brackets(String text) {
        List<Bracket> brackets = new ArrayList<>();
        int[] hiding = hiding(text);
        for (int place = 0; place < text.length(); place++) {
            for (int kind = 0; kind < signs.kinds.size(); kind++) {
                int side = signs.kinds.get(kind).indexOf(text.charAt(place));
                if (side >= 0 && hiding[place] == 0) {
                    brackets.add(new Bracket(place, kind, side == 0));
                }
            }
        }
        return brackets;
    }

    /** The pairs in the order of their opening brackets. */
    private List<Pair> pairs() {
        List<Pair> pairs = new ArrayList<>();
        List<Bracket> waiting = new ArrayList<>();
        for (Bracket bracket : brackets(state.text)) {
            if (bracket.opening) {
                waiting.add(bracket);
                continue;
            }
            for (int i = waiting.size() - 1; i >= 0; i--) {
                if (waiting.get(i).kind == bracket.kind) {
                    pairs.add(new Pair(waiting.get(i).place, bracket.place));
                    waiting = new ArrayList<>(waiting.subList(0, i));
                    break;
                }
            }
        }
        pairs.sort((a, b) -> a.open - b.open);
        return pairs;
    }

    private int depth(int place) {
        return (int) pairs().stream().filter(p -> p.isAround(place)).count();
    }

    private Pair pairAt(int place) {
        return pairs().stream().filter(p -> p.open == place || p.close == place).findFirst().orElse(null);
    }

    private Bracket bracketAt(int place) {
        return brackets(state.text).stream().filter(b -> b.place == place).findFirst().orElse(null);
    }

    private void needByte(int place) {
        if (place < 0 || place >= state.text.length()) {
            throw new IndexOutOfBoundsException();
        }
    }

    private Pair needPair(int place) {
        needByte(place);
        if (pairAt(place) == null) {
            throw new NoSuchElementException();
        }
        return pairAt(place);
    }

    int look(int place, int what) {
        needByte(place);
        Bracket bracket = bracketAt(place);
        Pair pair = pairAt(place);
        String ahead = state.text.substring(0, place);
        switch (what) {
            case 0: return state.text.charAt(place);
            case 1: return bracket == null ? -1 : bracket.kind;
            case 2: return bracket == null ? -1 : bracket.opening ? 1 : 0;
            case 3: return pair == null ? -1 : pair.open + pair.close - place;
            case 4: return depth(place);
            case 5: return pair == null ? -1 : depth(place) % state.colours;
            case 6: return hiding(state.text)[place];
            case 7: return (int) ahead.chars().filter(c -> c == 10).count();
            case 8: return place - ahead.lastIndexOf('\n') - 1;
            default: throw new IllegalArgumentException();
        }
    }

    private static int openOf(List<Pair> pairs, int k) {
        return k < 0 || k >= pairs.size() ? -1 : pairs.get(k).open;
    }

    int around(int place, int k) {
        needByte(place);
        List<Pair> around = new ArrayList<>(pairs().stream().filter(p -> p.isAround(place)).toList());
        around.sort((a, b) -> b.open - a.open);
        return openOf(around, k);
    }

    /** The pairs directly within a pair (null: in none). */
    private List<Pair> directlyWithin(Pair outer) {
        List<Pair> pairs = pairs();
        return pairs.stream().filter(p -> (outer == null || outer.isAround(p)) && pairs.stream()
            .noneMatch(t -> t.isAround(p) && (outer == null || outer.isAround(t)))).toList();
    }

    int within(int place, int k) {
        return openOf(directlyWithin(needPair(place)), k);
    }

    int beside(int place, boolean next) {
        Pair pair = needPair(place);
        List<Pair> around = new ArrayList<>(pairs().stream().filter(p -> p.isAround(pair)).toList());
        List<Pair> same = directlyWithin(around.isEmpty() ? null : around.get(around.size() - 1));
        return openOf(same, same.indexOf(pair) + (next ? 1 : -1));
    }

    int lone(int k) {
        List<Bracket> lone = brackets(state.text).stream().filter(b -> pairAt(b.place) == null).toList();
        return k < 0 || k >= lone.size() ? -1 : lone.get(k).place;
    }

    int count(int kind, int what) {
        if (kind < 0 || kind >= signs.kinds.size()) {
            throw new IndexOutOfBoundsException();
        }
        List<Bracket> same = brackets(state.text).stream().filter(b -> b.kind == kind).toList();
        switch (what) {
            case 0: return (int) same.stream().filter(b -> b.opening).count();
            case 1: return (int) same.stream().filter(b -> !b.opening).count();
            case 2: return (int) same.stream().filter(b -> b.opening && pairAt(b.place) != null).count();
            default: throw new IllegalArgumentException();
        }
    }

    int widest() {
        List<Pair> pairs = pairs();
        int most = pairs.stream().mapToInt(p -> p.close - p.open).max().orElse(0);
        return pairs.stream().filter(p -> p.close - p.open == most).mapToInt(p -> p.open).findFirst().orElse(-1);
    }

    double meanDepth() {
        List<Pair> pairs = pairs();
        return pairs.isEmpty() ? 0.0 : (double) pairs.stream().mapToInt(p -> depth(p.open)).sum() / pairs.size();
    }

    float share() {
        int brackets = brackets(state.text).size();
        return brackets == 0 ? 1.0f : (float) (2 * pairs().size()) / (float) brackets;
    }

    // ---- repairs

    private Repair repairOf(String text) {
        return repairOf(brackets(text), new HashMap<>());
    }

    /** The cheapest of the ways of the document, in its order, of a run of brackets. */
    private Repair repairOf(List<Bracket> run, Map<List<Integer>, Repair> known) {
        if (run.isEmpty()) {
            return new Repair(0, List.of());
        }
        List<Integer> key = List.of(run.get(0).place, run.get(run.size() - 1).place);
        Repair found = known.get(key);
        if (found != null) {
            return found;
        }
        Bracket first = run.get(0);
        Repair behind = repairOf(run.subList(1, run.size()), known);
        List<Repair> ways = new ArrayList<>();
        ways.add(joined(state.drop, new Step(0, first.place, first.kind, first.opening), behind, null));
        ways.add(joined(state.give, new Step(1, first.place, first.kind, first.opening), behind, null));
        for (int m = 1; m < run.size() && first.opening; m++) {
            Bracket closing = run.get(m);
            if (!closing.opening) {
                Repair between = repairOf(run.subList(1, m), known);
                Repair rest = repairOf(run.subList(m + 1, run.size()), known);
                boolean same = closing.kind == first.kind;
                Step step = same ? null : new Step(2, closing.place, first.kind, false);
                ways.add(joined(same ? 0 : state.change, step, between, rest));
            }
        }
        Repair best = ways.get(0);
        for (Repair way : ways) {
            best = way.cost < best.cost ? way : best;
        }
        known.put(key, best);
        return best;
    }

    private static Repair joined(int cost, Step step, Repair one, Repair two) {
        List<Step> steps = new ArrayList<>(one.steps);
        int sum = cost + one.cost;
        if (step != null) {
            steps.add(step);
        }
        if (two != null) {
            steps.addAll(two.steps);
            sum += two.cost;
        }
        steps.sort((a, b) -> a.place - b.place);
        return new Repair(sum, steps);
    }

    int repairCost() {
        return repairOf(state.text).cost;
    }

    int repairSteps() {
        return repairOf(state.text).steps.size();
    }

    int repairStep(int k, int what) {
        List<Step> steps = repairOf(state.text).steps;
        if (k < 0 || k >= steps.size()) {
            throw new NoSuchElementException();
        }
        switch (what) {
            case 0: return steps.get(k).act;
            case 1: return steps.get(k).place;
            case 2: return steps.get(k).kind;
            default: throw new IllegalArgumentException();
        }
    }

    int costWithout(int place) {
        needByte(place);
        return repairOf(state.text.substring(0, place) + state.text.substring(place + 1)).cost;
    }

    int culprit() {
        int least = repairCost();
        int culprit = -1;
        for (int place = 0; place < state.text.length(); place++) {
            int cost = costWithout(place);
            if (cost < least) {
                least = cost;
                culprit = place;
            }
        }
        return culprit;
    }

    // ---- marks and reports

    private void needMark(int mark) {
        if (mark < 0 || mark >= state.marks.size()) {
            throw new IndexOutOfBoundsException();
        }
    }

    int markAt(int mark) {
        needMark(mark);
        return state.marks.get(mark);
    }

    int report() {
        report = "";
        for (int place = 0; place < state.text.length(); place++) {
            int colour = look(place, 5);
            boolean bracket = bracketAt(place) != null;
            char c = bracket ? '!' : hiding(state.text)[place] != 0 ? '#' : '.';
            report += state.text.charAt(place) == '\n' ? '\n' : colour >= 0 ? (char) ('0' + colour) : c;
        }
        return report.length();
    }

    int reportByte(int index) {
        return index < 0 || index >= report.length() ? -1 : report.charAt(index);
    }

    // ---- changes

    private void keep() {
        keep(state.copy());
    }

    private void keep(State earlier) {
        past.add(earlier);
        if (past.size() > 10) {
            past.remove(0);
        }
    }

    private boolean hasRange(int from, int to) {
        return 0 <= from && from <= to && to <= state.text.length();
    }

    private void needRange(int from, int to) {
        if (!hasRange(from, to)) {
            throw new IndexOutOfBoundsException();
        }
    }

    int insert(int place, int length) {
        needRange(place, place);
        String bytes = takeInput(length);
        int refusal = refusal(bytes, state.text.length() + bytes.length());
        if (refusal < 0) {
            return refusal;
        }
        keep();
        state.put(place, bytes);
        return state.text.length();
    }

    int erase(int from, int to) {
        needRange(from, to);
        keep();
        state.take(from, to);
        return state.text.length();
    }

    int wrap(int from, int to, int kind) {
        needRange(from, to);
        if (kind < 0 || kind >= signs.kinds.size()) {
            throw new IndexOutOfBoundsException();
        }
        if (state.text.length() + 2 > 240) {
            return -2;
        }
        keep();
        wrapNow(from, to, kind);
        return state.text.length();
    }

    private void wrapNow(int from, int to, int kind) {
        state.put(to, signs.kinds.get(kind).substring(1));
        state.put(from, signs.kinds.get(kind).substring(0, 1));
    }

    int unwrap(int place) {
        Pair pair = needPair(place);
        keep();
        state.take(pair.close, pair.close + 1);
        state.take(pair.open, pair.open + 1);
        return state.text.length();
    }

    int repair() {
        State earlier = state.copy();
        int cost = repairCost();
        if (!repairNow()) {
            state = earlier;
            return -2;
        }
        keep(earlier);
        return cost;
    }

    private boolean repairNow() {
        List<Step> steps = repairOf(state.text).steps;
        for (int k = steps.size() - 1; k >= 0; k--) {
            Step step = steps.get(k);
            String signsOfKind = signs.kinds.get(step.kind);
            if (step.act == 0) {
                state.take(step.place, step.place + 1);
            } else if (step.act == 2) {
                set(step.place, signsOfKind.charAt(1));
            } else if (step.opening) {
                state.put(step.place + 1, signsOfKind.substring(1));
            } else {
                state.put(step.place, signsOfKind.substring(0, 1));
            }
        }
        return state.text.length() <= 240;
    }

    private void set(int place, char value) {
        state.text = state.text.substring(0, place) + value + state.text.substring(place + 1);
    }

    int mark(int place) {
        needRange(place, place);
        if (state.marks.size() == 8) {
            return -2;
        }
        keep();
        state.marks.add(place);
        return state.marks.size() - 1;
    }

    int unmark(int mark) {
        needMark(mark);
        keep();
        return state.marks.remove(mark);
    }

    int setColours(int colours) {
        if (colours < 1 || colours > 9) {
            throw new IllegalArgumentException();
        }
        keep();
        int previous = state.colours;
        state.colours = colours;
        return previous;
    }

    int setCosts(int drop, int give, int change) {
        for (int cost : new int[] {drop, give, change}) {
            if (cost < 1 || cost > 99) {
                throw new IllegalArgumentException();
            }
        }
        keep();
        state.drop = drop;
        state.give = give;
        state.change = change;
        return repairCost();
    }

    int script(int length) {
        rest = tokensOf(takeInput(length));
        List<List<Object>> statements = new ArrayList<>();
        try {
            while (!peek().sort.equals("end")) {
                statements.add(parseOrder());
            }
        } catch (Wrong wrong) {
            errorPosition = wrong.position;
            return -10 - wrong.code;
        }
        errorPosition = -1;
        State earlier = state.copy();
        for (int i = 0; i < statements.size(); i++) {
            if (!follow(statements.get(i))) {
                state = earlier;
                return -20 - i;
            }
        }
        keep(earlier);
        return statements.size();
    }

    private List<Object> parseOrder() {
        Map<String, Integer> verbs = Map.of("erase", 2, "put", 2, "swap", 2, "wrap", 3, "repair", 0, "want", 1);
        Token word = need("word", 0);
        if (!verbs.containsKey(word.text)) {
            throw new Wrong(1, word.start);
        }
        List<Object> order = new ArrayList<>(List.of(word.text));
        for (int i = 0; i < verbs.get(word.text); i++) {
            order.add(needNumber(0, 999));
        }
        need(";", 0);
        return order;
    }

    private boolean follow(List<Object> order) {
        int a = order.size() > 1 ? (int) order.get(1) : 0;
        int b = order.size() > 2 ? (int) order.get(2) : 0;
        int c = order.size() > 3 ? (int) order.get(3) : 0;
        int length = state.text.length();
        switch ((String) order.get(0)) {
            case "erase":
                if (!hasRange(a, b)) {
                    return false;
                }
                state.take(a, b);
                return true;
            case "put":
                if (a > length || !canBeInText(b) || length == 240) {
                    return false;
                }
                state.put(a, "" + (char) b);
                return true;
            case "swap":
                if (a >= length || b >= length) {
                    return false;
                }
                char one = state.text.charAt(a);
                set(a, state.text.charAt(b));
                set(b, one);
                return true;
            case "wrap":
                if (!hasRange(a, b) || c >= signs.kinds.size() || length + 2 > 240) {
                    return false;
                }
                wrapNow(a, b, c);
                return true;
            case "repair":
                return repairNow();
            default:
                return size(3) == a;
        }
    }

    // ---- undo and snapshots

    int undo() {
        if (past.isEmpty()) {
            return -1;
        }
        state = past.remove(past.size() - 1);
        return past.size();
    }

    boolean saveSnapshot(int slot) {
        if (slot != 0 && slot != 1) {
            throw new IndexOutOfBoundsException();
        }
        boolean earlier = slots[slot] != null;
        slots[slot] = state.copy();
        return earlier;
    }

    int restoreSnapshot(int slot) {
        if (slot != 0 && slot != 1) {
            throw new IndexOutOfBoundsException();
        }
        if (slots[slot] == null) {
            throw new IllegalStateException();
        }
        state = slots[slot].copy();
        past.clear();
        return state.text.length();
    }
}
