import java.util.NoSuchElementException;

/**
 * A text in which brackets of told kinds are paired, coloured, walked through and repaired.
 *
 * Every row is made in the constructor and used again by each call, since all calls of a run share
 * one room. What the text says is worked out anew only when it is asked for behind a change.
 */
public final class BracketHall {
    public static final int NONE = -1;

    private static final int MOST_BYTES = 240;
    private static final int MOST_INPUT = 600;
    private static final int APPENDED = 20;
    private static final int MOST_KINDS = 4;
    private static final int MOST_MARKS = 8;
    private static final int MOST_UNDOS = 10;
    private static final int MOST_COLOURS = 9;
    private static final int MOST_COST = 99;
    private static final int SLOTS = 2;
    private static final int LINE_FEED = 10;
    private static final int LAST_SIGN = 126;

    private static final int REFUSED = -2;
    private static final int NOT_TEXT = -3;
    private static final int SCRIPT_ERROR = -10;
    private static final int NOT_DONE = -20;

    private static final int BAD_TOKEN = 1;
    private static final int BAD_NUMBER = 2;
    private static final int TOLD_SIGN = 3;
    private static final int TOLD_TOO_OFTEN = 4;

    // The role of a bracket's sign is twice its kind, and 1 more for a closing one; these come behind.
    private static final int QUOTE = 2 * MOST_KINDS;
    private static final int ESCAPE = QUOTE + 1;
    private static final int NOTE = QUOTE + 2;

    private static final int IN_STRING = 1;
    private static final int IN_NOTE = 2;

    private static final int DROP = 0;
    private static final int GIVE = 1;
    private static final int CHANGE = 2;

    private static final int ERASE = 0;
    private static final int PUT = 1;
    private static final int SWAP = 2;
    private static final int WRAP = 3;
    private static final int REPAIR = 4;
    private static final int WANT = 5;

    private final Input input = new Input();
    private final Tokens tokens = new Tokens(input);
    private final Setting setting = new Setting();
    private final Orders orders = new Orders();
    private final Signs signs = new Signs();
    private final Page now = new Page();
    private final Page before = new Page();
    private final History history = new History();
    private final Page[] slots = new Page[SLOTS];
    private final boolean[] filled = new boolean[SLOTS];
    private final Reading reading = new Reading();
    private final Reading other = new Reading();
    private final Mending mending = new Mending();
    private final int[] reported = new int[MOST_BYTES];
    private int reportLength = 0;
    private int errorPlace = NONE;
    private boolean readingDue = true;
    private boolean mendingDue = true;

    public BracketHall() {
        signs.addKind('(', ')');
        for (int slot = 0; slot < SLOTS; slot++) {
            slots[slot] = new Page();
        }
    }

    // ---- texts

    public int append(int a, int b, int c, int d, int e) {
        if (input.length + APPENDED > MOST_INPUT) {
            return NONE;
        }
        input.addFour(a);
        input.addFour(b);
        input.addFour(c);
        input.addFour(d);
        input.addFour(e);
        return input.length;
    }

    public int setup(int length) throws IllegalArgumentException {
        askInput(length);
        tokens.begin(length);
        int code = setting.parse(tokens);
        noteError(code);
        input.length = 0;
        if (code == 0) {
            signs.copyFrom(setting.signs);
            now.clearText();
            now.colours = setting.colours;
            now.setPrices(setting.drop, setting.give, setting.change);
            startAnew();
        }
        return code;
    }

    public int load(int length) throws IllegalArgumentException {
        askInput(length);
        int refusal = refusalOf(length, 0);
        if (refusal == 0) {
            now.clearText();
            now.putIn(0, input, length);
            startAnew();
        }
        input.length = 0;
        return refusal == 0 ? readNow().brackets : refusal;
    }

    public int errorPosition() {
        return errorPlace;
    }

    public int size(int what) throws IllegalArgumentException {
        switch (what) {
            case 0: return now.length;
            case 1: return readNow().brackets;
            case 2: return readNow().pairs;
            case 3: return readNow().lones();
            case 4: return signs.kinds;
            case 5: return now.colours;
            case 6: return readNow().deepest;
            case 7: return now.lineOf(now.length) + 1;
            case 8: return now.markCount;
            case 9: return history.count;
            case 10: return readNow().hiddenBytes;
            case 11: return now.drop;
            case 12: return now.give;
            case 13: return now.change;
            default: throw new IllegalArgumentException("no such count");
        }
    }

    // ---- places and pairs

    public int look(int place, int what) throws IndexOutOfBoundsException, IllegalArgumentException {
        askByte(place);
        switch (what) {
            case 0: return now.byteAt(place);
            case 1: return readNow().kindOf(place);
            case 2: return readNow().sideOf(place);
            case 3: return readNow().partnerOf(place);
            case 4: return readNow().depthOf(place);
            case 5: return colourOf(place);
            case 6: return readNow().hiddenAs(place);
            case 7: return now.lineOf(place);
            case 8: return now.columnOf(place);
            default: throw new IllegalArgumentException("no such property");
        }
    }

    public int around(int place, int k) throws IndexOutOfBoundsException {
        askByte(place);
        return readNow().pairAround(place, k);
    }

    public int within(int place, int k) throws IndexOutOfBoundsException, NoSuchElementException {
        askByte(place);
        askPaired(place);
        return readNow().pairWithin(readNow().openingOf(place), k);
    }

    public int beside(int place, boolean next) throws IndexOutOfBoundsException, NoSuchElementException {
        askByte(place);
        askPaired(place);
        int opening = readNow().openingOf(place);
        return next ? readNow().pairBehind(opening) : readNow().pairAhead(opening);
    }

    public int lone(int k) {
        return readNow().loneAt(k);
    }

    public int count(int kind, int what) throws IndexOutOfBoundsException, IllegalArgumentException {
        askKind(kind);
        switch (what) {
            case 0: return readNow().bracketsOf(2 * kind, false);
            case 1: return readNow().bracketsOf(2 * kind + 1, false);
            case 2: return readNow().bracketsOf(2 * kind, true);
            default: throw new IllegalArgumentException("no such count of a kind");
        }
    }

    public int widest() {
        return readNow().widestPair();
    }

    public double meanDepth() {
        int pairs = readNow().pairs;
        if (pairs == 0) {
            return 0.0;
        }
        return (double) readNow().depthSum() / (double) pairs;
    }

    public float share() {
        int brackets = readNow().brackets;
        if (brackets == 0) {
            return 1.0f;
        }
        return (float) (2 * readNow().pairs) / (float) brackets;
    }

    // ---- repairs

    public int repairCost() {
        return mendNow().total;
    }

    public int repairSteps() {
        return mendNow().steps;
    }

    public int repairStep(int k, int what) throws NoSuchElementException, IllegalArgumentException {
        if (k < 0 || k >= mendNow().steps) {
            throw new NoSuchElementException("no such step");
        }
        switch (what) {
            case 0: return mendNow().actOf(k);
            case 1: return mendNow().placeOf(k);
            case 2: return mendNow().roleOf(k) / 2;
            default: throw new IllegalArgumentException("no such property of a step");
        }
    }

    public int costWithout(int place) throws IndexOutOfBoundsException {
        askByte(place);
        return costSkipping(place);
    }

    public int culprit() {
        int total = mendNow().total;
        if (total == 0) {
            return NONE;
        }
        int best = mending.leastSpared(readNow());
        for (int place = 0; place < now.length; place++) {
            // Other bytes than these are brackets, or hide and show nothing.
            if (readNow().hiddenAs(place) != 0 || now.byteAt(place) == LINE_FEED) {
                best = Math.min(best, Mending.placed(costSkipping(place), place));
            }
        }
        return Mending.costIn(best) < total ? Mending.placeIn(best) : NONE;
    }

    // ---- marks

    public int markAt(int mark) throws IndexOutOfBoundsException {
        askMark(mark);
        return now.placeOfMark(mark);
    }

    // ---- reports

    public int report() {
        reportLength = now.length;
        for (int place = 0; place < reportLength && place < MOST_BYTES; place++) {
            reported[place] = reportSign(place);
        }
        return reportLength;
    }

    public int reportByte(int index) {
        return index >= 0 && index < reportLength && index < MOST_BYTES ? reported[index] : NONE;
    }

    // ---- changes

    public int insert(int place, int length) throws IndexOutOfBoundsException, IllegalArgumentException {
        askPlace(place);
        askInput(length);
        int refusal = refusalOf(length, now.length);
        if (refusal == 0) {
            beginChange();
            now.putIn(place, input, length);
        }
        input.length = 0;
        return refusal == 0 ? now.length : refusal;
    }

    public int erase(int from, int to) throws IndexOutOfBoundsException {
        askRange(from, to);
        beginChange();
        now.takeOut(from, to);
        return now.length;
    }

    public int wrap(int from, int to, int kind) throws IndexOutOfBoundsException {
        askRange(from, to);
        askKind(kind);
        if (!now.hasRoom(2)) {
            return REFUSED;
        }
        beginChange();
        putPair(from, to, kind);
        return now.length;
    }

    public int unwrap(int place) throws IndexOutOfBoundsException, NoSuchElementException {
        askByte(place);
        askPaired(place);
        int opening = readNow().openingOf(place);
        int closing = readNow().partnerOf(opening);
        beginChange();
        now.takeOut(closing, closing + 1);
        now.takeOut(opening, opening + 1);
        return now.length;
    }

    public int repair() {
        int cost = mendNow().total;
        before.copyFrom(now);
        if (!mendText()) {
            return REFUSED;
        }
        history.keep(before);
        return cost;
    }

    public int mark(int place) throws IndexOutOfBoundsException {
        askPlace(place);
        if (now.markCount >= MOST_MARKS) {
            return REFUSED;
        }
        history.keep(now);
        now.addMark(place);
        return now.markCount - 1;
    }

    public int unmark(int mark) throws IndexOutOfBoundsException {
        askMark(mark);
        int place = now.placeOfMark(mark);
        history.keep(now);
        now.removeMark(mark);
        return place;
    }

    public int setColours(int colours) throws IllegalArgumentException {
        if (colours < 1 || colours > MOST_COLOURS) {
            throw new IllegalArgumentException("colours out of range");
        }
        int previous = now.colours;
        history.keep(now);
        now.colours = colours;
        return previous;
    }

    public int setCosts(int drop, int give, int change) throws IllegalArgumentException {
        if (!isCost(drop) || !isCost(give) || !isCost(change)) {
            throw new IllegalArgumentException("cost out of range");
        }
        beginChange();
        now.setPrices(drop, give, change);
        return mendNow().total;
    }

    public int script(int length) throws IllegalArgumentException {
        askInput(length);
        tokens.begin(length);
        int code = orders.parse(tokens);
        noteError(code);
        input.length = 0;
        if (code != 0) {
            return SCRIPT_ERROR - code;
        }
        before.copyFrom(now);
        for (int order = 0; order < orders.count; order++) {
            if (!follow(order)) {
                now.copyFrom(before);
                textTouched();
                return NOT_DONE - order;
            }
        }
        history.keep(before);
        return orders.count;
    }

    // ---- undo and snapshots

    public int undo() {
        if (history.count == 0) {
            return NONE;
        }
        history.takeBack(now);
        textTouched();
        return history.count;
    }

    public boolean saveSnapshot(int slot) throws IndexOutOfBoundsException {
        askSlot(slot);
        Page page = slots[slot];
        if (page != null) {
            page.copyFrom(now);
        }
        boolean earlier = filled[slot];
        filled[slot] = true;
        return earlier;
    }

    public int restoreSnapshot(int slot) throws IndexOutOfBoundsException, IllegalStateException {
        askSlot(slot);
        Page page = slots[slot];
        if (page == null || !filled[slot]) {
            throw new IllegalStateException("the slot is empty");
        }
        now.copyFrom(page);
        history.count = 0;
        textTouched();
        return now.length;
    }

    // ---- what is asked of arguments

    private void askInput(int length) {
        if (length < 0 || length > input.length) {
            throw new IllegalArgumentException("length out of range");
        }
    }

    private void askByte(int place) {
        if (!now.hasByte(place)) {
            throw new IndexOutOfBoundsException("no such place of a byte");
        }
    }

    private void askPlace(int place) {
        if (!now.hasPlace(place)) {
            throw new IndexOutOfBoundsException("no such place");
        }
    }

    private void askRange(int from, int to) {
        if (!now.hasRange(from, to)) {
            throw new IndexOutOfBoundsException("no such range");
        }
    }

    private void askKind(int kind) {
        if (!signs.hasKind(kind)) {
            throw new IndexOutOfBoundsException("no such kind");
        }
    }

    private void askMark(int mark) {
        if (mark < 0 || mark >= now.markCount) {
            throw new IndexOutOfBoundsException("no such mark");
        }
    }

    private void askSlot(int slot) {
        if (slot < 0 || slot >= SLOTS) {
            throw new IndexOutOfBoundsException("no such slot");
        }
    }

    private void askPaired(int place) {
        if (readNow().partnerOf(place) == NONE) {
            throw new NoSuchElementException("no bracket with a partner");
        }
    }

    private static boolean isCost(int cost) {
        return cost >= 1 && cost <= MOST_COST;
    }

    private static boolean isTextByte(int value) {
        return value == LINE_FEED || value >= ' ' && value <= LAST_SIGN;
    }

    /** Why the first bytes of the input cannot join so many bytes of a text; 0 if they can. */
    private int refusalOf(int length, int joined) {
        if (length + joined > MOST_BYTES) {
            return REFUSED;
        }
        return input.isText(length) ? 0 : NOT_TEXT;
    }

    // ---- what is known of the text

    private void textTouched() {
        readingDue = true;
        mendingDue = true;
    }

    private Reading readNow() {
        if (readingDue) {
            reading.read(now, signs, NONE);
            reading.pairUp();
            reading.measureDepths();
            readingDue = false;
        }
        return reading;
    }

    private Mending mendNow() {
        if (mendingDue) {
            mending.setPrices(now);
            mending.total = mending.costOf(readNow());
            mending.chooseSteps();
            mendingDue = false;
        }
        return mending;
    }

    private int colourOf(int place) {
        if (readNow().partnerOf(place) == NONE || now.colours < 1) {
            return NONE;
        }
        return readNow().depthOf(place) % now.colours;
    }

    private int costSkipping(int place) {
        int total = mendNow().total;
        other.read(now, signs, place);
        return other.hasBracketsOf(readNow()) ? total : mending.costOf(other);
    }

    private int reportSign(int place) {
        if (now.byteAt(place) == LINE_FEED) {
            return LINE_FEED;
        }
        if (readNow().hiddenAs(place) != 0) {
            return '#';
        }
        if (readNow().kindOf(place) == NONE) {
            return '.';
        }
        int colour = colourOf(place);
        return colour == NONE ? '!' : '0' + colour;
    }

    // ---- how changes are done

    private void noteError(int code) {
        errorPlace = code == 0 ? NONE : tokens.start;
    }

    private void startAnew() {
        history.count = 0;
        for (int slot = 0; slot < SLOTS; slot++) {
            filled[slot] = false;
        }
        textTouched();
    }

    private void beginChange() {
        history.keep(now);
        textTouched();
    }

    private void putPair(int from, int to, int kind) {
        now.putByte(to, signs.closingOf(kind));
        now.putByte(from, signs.openingOf(kind));
        textTouched();
    }

    /**
     * Does the steps that mendNow has found, if the text has room for them. From the last one to the
     * first one those ahead keep their places; and no text between is longer than the one at the end,
     * as one repair never has both DROP and GIVE: the cheaper one is always taken.
     */
    private boolean mendText() {
        if (!now.hasRoom(mending.growth())) {
            return false;
        }
        for (int k = mending.steps - 1; k >= 0; k--) {
            mendBracket(mending.actOf(k), mending.placeOf(k), mending.roleOf(k));
        }
        textTouched();
        return true;
    }

    private void mendBracket(int act, int place, int role) {
        if (act == DROP) {
            now.takeOut(place, place + 1);
        } else if (act == CHANGE) {
            now.setByte(place, signs.closingOf(role / 2));
        } else if (role % 2 == 0) {
            now.putByte(place + 1, signs.closingOf(role / 2));
        } else {
            now.putByte(place, signs.openingOf(role / 2));
        }
    }

    private boolean follow(int order) {
        int a = orders.numberOf(order, 0);
        int b = orders.numberOf(order, 1);
        switch (orders.verbOf(order)) {
            case ERASE: return followErase(a, b);
            case PUT: return followPut(a, b);
            case SWAP: return followSwap(a, b);
            case WRAP: return followWrap(a, b, orders.numberOf(order, 2));
            case REPAIR:
                mendNow();
                return mendText();
            default: return readNow().lones() == a;
        }
    }

    private boolean followErase(int from, int to) {
        if (!now.hasRange(from, to)) {
            return false;
        }
        now.takeOut(from, to);
        textTouched();
        return true;
    }

    private boolean followPut(int place, int value) {
        if (!now.hasPlace(place) || !isTextByte(value) || !now.hasRoom(1)) {
            return false;
        }
        now.putByte(place, value);
        textTouched();
        return true;
    }

    private boolean followSwap(int one, int two) {
        if (!now.hasByte(one) || !now.hasByte(two)) {
            return false;
        }
        int value = now.byteAt(one);
        now.setByte(one, now.byteAt(two));
        now.setByte(two, value);
        textTouched();
        return true;
    }

    private boolean followWrap(int from, int to, int kind) {
        if (!now.hasRange(from, to) || !signs.hasKind(kind) || !now.hasRoom(2)) {
            return false;
        }
        putPair(from, to, kind);
        return true;
    }

    /** The input buffer. */
    private static final class Input {
        private final int[] bytes = new int[MOST_INPUT];
        private int length = 0;

        void addFour(int four) {
            for (int shift = 24; shift >= 0; shift -= 8) {
                if (length < MOST_INPUT) {
                    bytes[length] = (four >>> shift) & 255;
                    length++;
                }
            }
        }

        int byteAt(int index) {
            return index >= 0 && index < MOST_INPUT ? bytes[index] : NONE;
        }

        boolean isText(int count) {
            for (int i = 0; i < count; i++) {
                if (!isTextByte(byteAt(i))) {
                    return false;
                }
            }
            return true;
        }
    }

    /** The tokens of a setup or a script, one at a time: an error's position is that of the present one. */
    private static final class Tokens {
        private static final int ENDED = 0;
        private static final int WORD = 1;
        private static final int NUMBER = 2;
        private static final int SEMICOLON = 3;
        private static final int SIGNS = 4;
        private static final int BLANK = 5;
        private static final int INVALID = 6;

        private final Input input;
        private int end = 0;
        private int start = 0;
        private int stop = 0;
        private int sort = ENDED;

        Tokens(Input input) {
            this.input = input;
        }

        void begin(int length) {
            end = length;
            stop = 0;
            moveOn();
        }

        void moveOn() {
            start = stop;
            while (start < end && sortOf(input.byteAt(start)) == BLANK) {
                start++;
            }
            stop = start;
            if (start >= end) {
                sort = ENDED;
                return;
            }
            sort = sortOf(input.byteAt(start));
            stop++;
            while (stop < end && longest() > 1 && sortOf(input.byteAt(stop)) == sort) {
                stop++;
            }
            if (stop - start > longest()) {
                sort = INVALID;
            }
        }

        private int longest() {
            switch (sort) {
                case WORD: return 7;
                case NUMBER: return 3;
                case SIGNS: return 2;
                default: return 1;
            }
        }

        private static int sortOf(int value) {
            if (value == ' ' || value == LINE_FEED) {
                return BLANK;
            }
            if (value >= 'a' && value <= 'z') {
                return WORD;
            }
            if (value >= '0' && value <= '9') {
                return NUMBER;
            }
            if (value == ';') {
                return SEMICOLON;
            }
            return value > ' ' && value <= LAST_SIGN ? SIGNS : INVALID;
        }

        boolean isEnd() {
            return sort == ENDED;
        }

        boolean isWord(String word) {
            if (sort != WORD || stop - start != word.length()) {
                return false;
            }
            for (int i = 0; i < word.length(); i++) {
                if (input.byteAt(start + i) != word.charAt(i)) {
                    return false;
                }
            }
            return true;
        }

        boolean isSigns(int count) {
            return sort == SIGNS && stop - start == count;
        }

        int signAt(int index) {
            return input.byteAt(start + index);
        }

        /** Passes a number of this range and returns it; stays, and returns the code below 0, at an error. */
        int takeNumber(int least, int most) {
            if (sort != NUMBER) {
                return -BAD_TOKEN;
            }
            int value = 0;
            for (int i = start; i < stop; i++) {
                value = 10 * value + input.byteAt(i) - '0';
            }
            if (value < least || value > most) {
                return -BAD_NUMBER;
            }
            moveOn();
            return value;
        }

        int passSemicolon() {
            if (sort != SEMICOLON) {
                return BAD_TOKEN;
            }
            moveOn();
            return 0;
        }
    }

    /** What the signs mean. */
    private static final class Signs {
        private final int[] roles = new int[LAST_SIGN + 1];
        private final int[] brackets = new int[2 * MOST_KINDS];
        private int kinds = 0;

        Signs() {
            clear();
        }

        void clear() {
            for (int value = 0; value <= LAST_SIGN; value++) {
                roles[value] = NONE;
            }
            kinds = 0;
        }

        void copyFrom(Signs from) {
            System.arraycopy(from.roles, 0, roles, 0, LAST_SIGN + 1);
            System.arraycopy(from.brackets, 0, brackets, 0, 2 * MOST_KINDS);
            kinds = from.kinds;
        }

        int roleOf(int value) {
            return value >= 0 && value <= LAST_SIGN ? roles[value] : NONE;
        }

        boolean hasKind(int kind) {
            return kind >= 0 && kind < kinds;
        }

        int openingOf(int kind) {
            return hasKind(kind) && kind < MOST_KINDS ? brackets[2 * kind] : NONE;
        }

        int closingOf(int kind) {
            return hasKind(kind) && kind < MOST_KINDS ? brackets[2 * kind + 1] : NONE;
        }

        /** Tells the signs of a kind; the code of the error, or 0. */
        int addKind(int opening, int closing) {
            if (opening == closing || roleOf(opening) != NONE || roleOf(closing) != NONE) {
                return TOLD_SIGN;
            }
            if (kinds >= MOST_KINDS) {
                return TOLD_TOO_OFTEN;
            }
            brackets[2 * kinds] = opening;
            brackets[2 * kinds + 1] = closing;
            tell(opening, 2 * kinds);
            tell(closing, 2 * kinds + 1);
            kinds++;
            return 0;
        }

        /** Tells a sign; the code of the error, or 0. */
        int tell(int value, int role) {
            if (value < 0 || value > LAST_SIGN) {
                return BAD_TOKEN;
            }
            if (roles[value] != NONE) {
                return TOLD_SIGN;
            }
            roles[value] = role;
            return 0;
        }
    }

    /** What a setup tells, kept apart until all of it has been found right. */
    private static final class Setting {
        private final Signs signs = new Signs();
        private int colours = 0;
        private int drop = 0;
        private int give = 0;
        private int change = 0;
        private boolean quoteTold = false;
        private boolean noteTold = false;

        /** Returns the code of the error, at which the tokens then stand, or 0. */
        int parse(Tokens tokens) {
            startOver();
            if (!tokens.isWord("kinds")) {
                return BAD_TOKEN;
            }
            tokens.moveOn();
            int code = parseKinds(tokens);
            for (int n = 0; n < MOST_INPUT && code == 0 && !tokens.isEnd(); n++) {
                code = parseStatement(tokens);
            }
            return code;
        }

        private void startOver() {
            signs.clear();
            colours = Page.FIRST_COLOURS;
            drop = Page.FIRST_DROP;
            give = Page.FIRST_GIVE;
            change = Page.FIRST_CHANGE;
            quoteTold = false;
            noteTold = false;
        }

        private int parseKinds(Tokens tokens) {
            if (!tokens.isSigns(2)) {
                return BAD_TOKEN;
            }
            for (int n = 0; n <= MOST_KINDS && tokens.isSigns(2); n++) {
                int code = signs.addKind(tokens.signAt(0), tokens.signAt(1));
                if (code != 0) {
                    return code;
                }
                tokens.moveOn();
            }
            return tokens.passSemicolon();
        }

        private int parseStatement(Tokens tokens) {
            int code = BAD_TOKEN;
            if (tokens.isWord("quote")) {
                code = parseQuote(tokens);
            } else if (tokens.isWord("note")) {
                code = parseNote(tokens);
            } else if (tokens.isWord("colours")) {
                code = parseColours(tokens);
            } else if (tokens.isWord("costs")) {
                code = parseCosts(tokens);
            }
            return code == 0 ? tokens.passSemicolon() : code;
        }

        private int parseQuote(Tokens tokens) {
            if (quoteTold) {
                return TOLD_TOO_OFTEN;
            }
            quoteTold = true;
            tokens.moveOn();
            int code = parseSign(tokens, QUOTE);
            if (code != 0 || !tokens.isWord("escape")) {
                return code;
            }
            tokens.moveOn();
            return parseSign(tokens, ESCAPE);
        }

        private int parseNote(Tokens tokens) {
            if (noteTold) {
                return TOLD_TOO_OFTEN;
            }
            noteTold = true;
            tokens.moveOn();
            return parseSign(tokens, NOTE);
        }

        private int parseSign(Tokens tokens, int role) {
            if (!tokens.isSigns(1)) {
                return BAD_TOKEN;
            }
            int code = signs.tell(tokens.signAt(0), role);
            if (code == 0) {
                tokens.moveOn();
            }
            return code;
        }

        private int parseColours(Tokens tokens) {
            tokens.moveOn();
            colours = tokens.takeNumber(1, MOST_COLOURS);
            return colours < 0 ? -colours : 0;
        }

        private int parseCosts(Tokens tokens) {
            tokens.moveOn();
            drop = tokens.takeNumber(1, MOST_COST);
            if (drop < 0) {
                return -drop;
            }
            give = tokens.takeNumber(1, MOST_COST);
            if (give < 0) {
                return -give;
            }
            change = tokens.takeNumber(1, MOST_COST);
            return change < 0 ? -change : 0;
        }
    }

    /** The statements of a script, all of them parsed before the first one is done. */
    private static final class Orders {
        // The shortest statement has six bytes: want0;
        private static final int MOST = MOST_INPUT / 6;
        private static final int MOST_NUMBERS = 3;
        private static final int MOST_NUMBER = 999;

        private final int[] verbs = new int[MOST];
        private final int[] numbers = new int[MOST * MOST_NUMBERS];
        private int count = 0;

        int verbOf(int order) {
            return order >= 0 && order < MOST ? verbs[order] : NONE;
        }

        int numberOf(int order, int index) {
            if (order < 0 || order >= MOST || index < 0 || index >= MOST_NUMBERS) {
                return NONE;
            }
            return numbers[order * MOST_NUMBERS + index];
        }

        /** Returns the code of the error, at which the tokens then stand, or 0. */
        int parse(Tokens tokens) {
            int code = 0;
            count = 0;
            for (int n = 0; n < MOST && code == 0 && !tokens.isEnd(); n++) {
                code = parseStatement(tokens, n);
                count++;
            }
            return code;
        }

        private int parseStatement(Tokens tokens, int order) {
            int verb = verbIn(tokens);
            if (verb == NONE || order < 0 || order >= MOST) {
                return BAD_TOKEN;
            }
            verbs[order] = verb;
            tokens.moveOn();
            for (int i = 0; i < numbersOf(verb) && i < MOST_NUMBERS; i++) {
                int number = tokens.takeNumber(0, MOST_NUMBER);
                if (number < 0) {
                    return -number;
                }
                numbers[order * MOST_NUMBERS + i] = number;
            }
            return tokens.passSemicolon();
        }

        private static int verbIn(Tokens tokens) {
            if (tokens.isWord("erase")) {
                return ERASE;
            }
            if (tokens.isWord("put")) {
                return PUT;
            }
            if (tokens.isWord("swap")) {
                return SWAP;
            }
            if (tokens.isWord("wrap")) {
                return WRAP;
            }
            if (tokens.isWord("repair")) {
                return REPAIR;
            }
            return tokens.isWord("want") ? WANT : NONE;
        }

        private static int numbersOf(int verb) {
            switch (verb) {
                case WRAP: return 3;
                case REPAIR: return 0;
                case WANT: return 1;
                default: return 2;
            }
        }
    }

    /** All that changes can change, and so what the undo history and the snapshots hold. */
    private static final class Page {
        private static final int FIRST_COLOURS = 3;
        private static final int FIRST_DROP = 2;
        private static final int FIRST_GIVE = 3;
        private static final int FIRST_CHANGE = 4;

        private final int[] bytes = new int[MOST_BYTES];
        private final int[] marks = new int[MOST_MARKS];
        private int length = 0;
        private int markCount = 0;
        private int colours = FIRST_COLOURS;
        private int drop = FIRST_DROP;
        private int give = FIRST_GIVE;
        private int change = FIRST_CHANGE;

        void copyFrom(Page page) {
            System.arraycopy(page.bytes, 0, bytes, 0, MOST_BYTES);
            System.arraycopy(page.marks, 0, marks, 0, MOST_MARKS);
            length = page.length;
            markCount = page.markCount;
            colours = page.colours;
            setPrices(page.drop, page.give, page.change);
        }

        void setPrices(int newDrop, int newGive, int newChange) {
            drop = newDrop;
            give = newGive;
            change = newChange;
        }

        void clearText() {
            length = 0;
            markCount = 0;
        }

        boolean hasByte(int place) {
            return place >= 0 && place < length;
        }

        boolean hasPlace(int place) {
            return place >= 0 && place <= length;
        }

        boolean hasRange(int from, int to) {
            return from >= 0 && from <= to && to <= length;
        }

        boolean hasRoom(int more) {
            return more <= MOST_BYTES - length;
        }

        int byteAt(int place) {
            return hasByte(place) ? bytes[place] : NONE;
        }

        void setByte(int place, int value) {
            if (hasByte(place)) {
                bytes[place] = value;
            }
        }

        int lineOf(int place) {
            int line = 0;
            for (int p = 0; p < place && p < length; p++) {
                if (bytes[p] == LINE_FEED) {
                    line++;
                }
            }
            return line;
        }

        int columnOf(int place) {
            int column = 0;
            while (column < place && byteAt(place - column - 1) != LINE_FEED) {
                column++;
            }
            return column;
        }

        void putByte(int place, int value) {
            makeRoom(place, 1);
            setByte(place, value);
        }

        void putIn(int place, Input input, int count) {
            makeRoom(place, count);
            for (int i = 0; i < count; i++) {
                setByte(place + i, input.byteAt(i));
            }
        }

        private void makeRoom(int place, int more) {
            if (!hasPlace(place) || more < 0 || !hasRoom(more)) {
                return;
            }
            System.arraycopy(bytes, place, bytes, place + more, length - place);
            length += more;
            for (int i = 0; i < markCount; i++) {
                if (marks[i] >= place) {
                    marks[i] += more;
                }
            }
        }

        void takeOut(int from, int to) {
            if (!hasRange(from, to)) {
                return;
            }
            System.arraycopy(bytes, to, bytes, from, length - to);
            length -= to - from;
            for (int i = 0; i < markCount; i++) {
                if (marks[i] > to) {
                    marks[i] -= to - from;
                } else if (marks[i] > from) {
                    marks[i] = from;
                }
            }
        }

        int placeOfMark(int mark) {
            return mark >= 0 && mark < markCount ? marks[mark] : NONE;
        }

        void addMark(int place) {
            if (markCount < MOST_MARKS) {
                marks[markCount] = place;
                markCount++;
            }
        }

        void removeMark(int mark) {
            if (mark < 0 || mark >= markCount) {
                return;
            }
            System.arraycopy(marks, mark + 1, marks, mark, markCount - mark - 1);
            markCount--;
        }
    }

    /** The pages ahead of the latest changes, in a ring. */
    private static final class History {
        private final Page[] pages = new Page[MOST_UNDOS];
        private int next = 0;
        private int count = 0;

        History() {
            for (int i = 0; i < MOST_UNDOS; i++) {
                pages[i] = new Page();
            }
        }

        void keep(Page page) {
            Page spot = pages[next];
            if (spot != null) {
                spot.copyFrom(page);
            }
            next = next + 1 < MOST_UNDOS ? next + 1 : 0;
            count = Math.min(count + 1, MOST_UNDOS);
        }

        void takeBack(Page page) {
            if (count == 0) {
                return;
            }
            next = next > 0 ? next - 1 : MOST_UNDOS - 1;
            count--;
            Page spot = pages[next];
            if (spot != null) {
                page.copyFrom(spot);
            }
        }
    }

    /** What is hidden in a text, which of its bytes are brackets, and how they are paired. */
    private static final class Reading {
        private final int[] hidden = new int[MOST_BYTES];
        private final int[] roles = new int[MOST_BYTES];
        private final int[] partners = new int[MOST_BYTES];
        private final int[] depths = new int[MOST_BYTES];
        private final int[] waiting = new int[MOST_BYTES];
        private int length = 0;
        private int brackets = 0;
        private int pairs = 0;
        private int hiddenBytes = 0;
        private int deepest = NONE;
        private int inside = 0;
        private boolean escaped = false;

        /** Reads a text as if the byte at the skipped place (NONE: no byte) was not in it. */
        void read(Page page, Signs signs, int skipped) {
            length = Math.min(page.length, MOST_BYTES);
            brackets = 0;
            hiddenBytes = 0;
            inside = 0;
            escaped = false;
            for (int place = 0; place < length; place++) {
                hidden[place] = 0;
                roles[place] = NONE;
                if (place != skipped) {
                    readByte(place, page.byteAt(place), signs);
                }
            }
        }

        private void readByte(int place, int value, Signs signs) {
            int role = signs.roleOf(value);
            if (inside == IN_NOTE && value == LINE_FEED) {
                inside = 0;
            } else if (inside != 0) {
                hide(place);
                readInside(role);
            } else if (role == QUOTE || role == NOTE) {
                inside = role == QUOTE ? IN_STRING : IN_NOTE;
                hide(place);
            } else if (role != NONE && role < QUOTE) {
                roles[place] = role;
                brackets++;
            }
        }

        private void readInside(int role) {
            if (inside != IN_STRING) {
                return;
            }
            if (escaped) {
                escaped = false;
            } else if (role == ESCAPE) {
                escaped = true;
            } else if (role == QUOTE) {
                inside = 0;
            }
        }

        private void hide(int place) {
            if (place >= 0 && place < MOST_BYTES) {
                hidden[place] = inside;
                hiddenBytes++;
            }
        }

        void pairUp() {
            int top = 0;
            pairs = 0;
            for (int place = 0; place < length; place++) {
                partners[place] = NONE;
                int role = roles[place];
                if (role == NONE) {
                    continue;
                }
                if (role % 2 == 0 && top < MOST_BYTES) {
                    waiting[top] = place;
                    top++;
                    continue;
                }
                int latest = latestWaiting(top, role - 1);
                if (latest != NONE) {
                    joinPair(waiting[latest], place);
                    top = latest;
                }
            }
        }

        private int latestWaiting(int top, int role) {
            for (int i = top - 1; i >= 0; i--) {
                if (roleAt(waiting[i]) == role) {
                    return i;
                }
            }
            return NONE;
        }

        private void joinPair(int opening, int closing) {
            if (opening >= 0 && opening < closing && closing < MOST_BYTES) {
                partners[opening] = closing;
                partners[closing] = opening;
                pairs++;
            }
        }

        void measureDepths() {
            int depth = 0;
            deepest = NONE;
            for (int place = 0; place < length; place++) {
                if (isClosing(place)) {
                    depth--;
                }
                depths[place] = depth;
                if (isOpening(place)) {
                    deepest = Math.max(deepest, depth);
                    depth++;
                }
            }
        }

        /** Whether an opening bracket with a partner is there. */
        private boolean isOpening(int place) {
            return partnerOf(place) > place;
        }

        /** Whether a closing bracket with a partner is there. */
        private boolean isClosing(int place) {
            return partnerOf(place) != NONE && partnerOf(place) < place;
        }

        int roleAt(int place) {
            return place >= 0 && place < length ? roles[place] : NONE;
        }

        int kindOf(int place) {
            int role = roleAt(place);
            return role == NONE ? NONE : role / 2;
        }

        int sideOf(int place) {
            int role = roleAt(place);
            return role == NONE ? NONE : 1 - role % 2;
        }

        int partnerOf(int place) {
            return place >= 0 && place < length ? partners[place] : NONE;
        }

        int openingOf(int place) {
            return isClosing(place) ? partnerOf(place) : place;
        }

        int depthOf(int place) {
            return place >= 0 && place < length ? depths[place] : 0;
        }

        int hiddenAs(int place) {
            return place >= 0 && place < length ? hidden[place] : 0;
        }

        int lones() {
            return brackets - 2 * pairs;
        }

        boolean hasBracketsOf(Reading reading) {
            if (brackets != reading.brackets) {
                return false;
            }
            for (int place = 0; place < length; place++) {
                if (roles[place] != reading.roleAt(place)) {
                    return false;
                }
            }
            return true;
        }

        int pairAround(int place, int k) {
            int left = k;
            for (int p = place - 1; p >= 0 && left >= 0; p--) {
                if (partnerOf(p) > place) {
                    if (left == 0) {
                        return p;
                    }
                    left--;
                }
            }
            return NONE;
        }

        int pairWithin(int opening, int k) {
            int left = k;
            for (int p = opening + 1; p < partnerOf(opening) && left >= 0; p++) {
                if (isOpening(p) && depthOf(p) == depthOf(opening) + 1) {
                    if (left == 0) {
                        return p;
                    }
                    left--;
                }
            }
            return NONE;
        }

        /** Goes behind a pair to the next one of its depth; a lesser depth ends what both are in. */
        int pairBehind(int opening) {
            int depth = depthOf(opening);
            for (int p = partnerOf(opening) + 1; p < length && depthOf(p) >= depth; p++) {
                if (isOpening(p) && depthOf(p) == depth) {
                    return p;
                }
            }
            return NONE;
        }

        int pairAhead(int opening) {
            int depth = depthOf(opening);
            for (int p = opening - 1; p >= 0 && depthOf(p) >= depth; p--) {
                if (isOpening(p) && depthOf(p) == depth) {
                    return p;
                }
            }
            return NONE;
        }

        int loneAt(int k) {
            int left = k;
            for (int p = 0; p < length && left >= 0; p++) {
                if (roleAt(p) != NONE && partnerOf(p) == NONE) {
                    if (left == 0) {
                        return p;
                    }
                    left--;
                }
            }
            return NONE;
        }

        int bracketsOf(int role, boolean pairedOnly) {
            int found = 0;
            for (int p = 0; p < length; p++) {
                if (roleAt(p) == role && (!pairedOnly || partnerOf(p) != NONE)) {
                    found++;
                }
            }
            return found;
        }

        int widestPair() {
            int widest = NONE;
            int width = 0;
            for (int p = 0; p < length; p++) {
                if (partnerOf(p) - p > width) {
                    widest = p;
                    width = partnerOf(p) - p;
                }
            }
            return widest;
        }

        int depthSum() {
            int sum = 0;
            for (int p = 0; p < length; p++) {
                if (isOpening(p)) {
                    sum += depthOf(p);
                }
            }
            return sum;
        }
    }

    /**
     * THE REPAIR. The tables are worked out for the brackets gathered last; the steps and the total
     * stay those of the last plan, so that other brackets can be priced in between.
     */
    private static final class Mending {
        private static final int SPOTS = (MOST_BYTES + 1) * (MOST_BYTES + 2) / 2;
        private static final int FAR = 1 << 28;
        // A place takes the low byte below a cost, so that the least of such numbers has the first place.
        private static final int PLACES = 256;

        private final int[] places = new int[MOST_BYTES];
        private final int[] roles = new int[MOST_BYTES];
        private final boolean[] closing = new boolean[MOST_BYTES];
        private final int[] costs = new int[SPOTS];
        private final int[] spared = new int[SPOTS];
        private final int[] ends = new int[MOST_BYTES + 2];
        private final int[] takenRoles = new int[MOST_BYTES];
        private final int[] acts = new int[MOST_BYTES];
        private final int[] stepPlaces = new int[MOST_BYTES];
        private final int[] stepRoles = new int[MOST_BYTES];
        private int count = 0;
        private int steps = 0;
        private int total = 0;
        private int alone = 0;
        private int aloneAct = DROP;
        private int change = 0;

        static int placed(int cost, int place) {
            return cost * PLACES + place;
        }

        static int costIn(int placed) {
            return placed / PLACES;
        }

        static int placeIn(int placed) {
            return placed % PLACES;
        }

        /** A bracket that is not paired costs the same wherever it is: DROP, unless GIVE is cheaper. */
        void setPrices(Page page) {
            aloneAct = page.drop <= page.give ? DROP : GIVE;
            alone = Math.min(page.drop, page.give);
            change = page.change;
        }

        int costOf(Reading reading) {
            gather(reading);
            for (int j = 0; j <= count; j++) {
                if (isEnd(j)) {
                    costs[spot(j, j)] = 0;
                    for (int i = j - 1; i >= 0; i--) {
                        settle(i, j);
                    }
                }
            }
            return costs[spot(0, count)];
        }

        /** The least cost without one bracket, with the first such place; FAR without brackets. */
        int leastSpared(Reading reading) {
            costOf(reading);
            for (int j = 0; j <= count; j++) {
                if (isEnd(j)) {
                    spared[spot(j, j)] = FAR;
                    for (int i = j - 1; i >= 0; i--) {
                        settleSpared(i, j);
                    }
                }
            }
            return spared[spot(0, count)];
        }

        private void gather(Reading reading) {
            count = 0;
            for (int place = 0; place < reading.length && count < MOST_BYTES; place++) {
                int role = reading.roleAt(place);
                if (role != NONE) {
                    places[count] = place;
                    roles[count] = role;
                    closing[count] = role % 2 == 1;
                    count++;
                }
            }
        }

        /** Where the brackets from the i-th one up to one ahead of the j-th one stand in the tables. */
        private static int spot(int i, int j) {
            return j * (j + 1) / 2 + i;
        }

        /** Brackets that are repaired by themselves end ahead of a partner, or with the last one. */
        private boolean isEnd(int j) {
            return j == count || j >= 0 && j < count && closing[j];
        }

        private int pairPrice(int i, int m) {
            return roles[i] + 1 == roles[m] ? 0 : change;
        }

        /** Notes the least cost from the i-th one up to the j-th one; returns its partner then, or NONE. */
        private int settle(int i, int j) {
            int behind = spot(0, j);
            int best = alone + costs[behind + i + 1];
            int partner = NONE;
            boolean opening = !closing[i];
            for (int m = i + 1; opening && m < j; m++) {
                if (closing[m]) {
                    int cost = pairPrice(i, m) + costs[spot(i + 1, m)] + costs[behind + m + 1];
                    if (cost < best) {
                        best = cost;
                        partner = m;
                    }
                }
            }
            costs[behind + i] = best;
            return partner;
        }

        /** The same, if one of these brackets is not there: the i-th one, or one of those behind it. */
        private void settleSpared(int i, int j) {
            int behind = spot(0, j);
            int best = placed(costs[behind + i + 1], places[i]);
            best = Math.min(best, placed(alone, 0) + spared[behind + i + 1]);
            boolean opening = !closing[i];
            for (int m = i + 1; opening && m < j; m++) {
                if (closing[m]) {
                    int between = spot(i + 1, m);
                    int price = placed(pairPrice(i, m), 0);
                    int sparedBetween = spared[between] + placed(costs[behind + m + 1], 0);
                    int sparedBehind = placed(costs[between], 0) + spared[behind + m + 1];
                    best = Math.min(best, price + Math.min(sparedBetween, sparedBehind));
                }
            }
            spared[behind + i] = best;
        }

        /** Walks through the brackets: one that none has taken is repaired with those up to its end. */
        void chooseSteps() {
            steps = 0;
            for (int i = 0; i < count; i++) {
                takenRoles[i] = NONE;
                ends[i] = count;
            }
            for (int i = 0; i < count; i++) {
                int partner = takenRoles[i] == NONE ? settle(i, ends[i]) : NONE;
                if (partner != NONE) {
                    takenRoles[partner] = roles[i] + 1;
                    ends[i + 1] = partner;
                    ends[partner + 1] = ends[i];
                } else if (takenRoles[i] == NONE) {
                    addStep(aloneAct, i, roles[i]);
                    ends[i + 1] = ends[i];
                } else if (takenRoles[i] != roles[i]) {
                    addStep(CHANGE, i, takenRoles[i]);
                }
            }
        }

        private void addStep(int act, int bracket, int role) {
            if (steps < MOST_BYTES) {
                acts[steps] = act;
                stepPlaces[steps] = places[bracket];
                stepRoles[steps] = role;
                steps++;
            }
        }

        private boolean hasStep(int k) {
            return k >= 0 && k < steps && k < MOST_BYTES;
        }

        int actOf(int k) {
            return hasStep(k) ? acts[k] : NONE;
        }

        int placeOf(int k) {
            return hasStep(k) ? stepPlaces[k] : NONE;
        }

        /** The role of the bracket of a step, for CHANGE the one that it gets. */
        int roleOf(int k) {
            return hasStep(k) ? stepRoles[k] : NONE;
        }

        /** By how many bytes the steps make the text longer. */
        int growth() {
            int growth = 0;
            for (int k = 0; k < steps; k++) {
                if (actOf(k) == GIVE) {
                    growth++;
                } else if (actOf(k) == DROP) {
                    growth--;
                }
            }
            return growth;
        }
    }
}
