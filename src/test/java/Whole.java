/**
 * A hall in which everything is filled that a call could spoil, and all that can be learnt of a hall:
 * for tests that ask what a refused call has changed.
 */
final class Whole {
    static final String SETUP = "kinds () [] {}; quote \" escape \\; note #; colours 5; costs 7 8 9;";
    /** The text of hall(): two pairs one within the other, two lone brackets, a string, a note, a pair. */
    static final String TEXT = "([b])}\n\"(\\\"\"#x(\n()[";
    static final int LENGTH = TEXT.length();
    /** The bytes in the input buffer of hall(), forty in all. */
    static final String INPUT = "put 0 40; wrap 0 1 0; want 9; 1234567890";

    interface Asked {
        int answer(BracketHall hall);
    }

    private Whole() {
    }

    static BracketHall hall() {
        BracketHall hall = new BracketHall();
        Check.setup(hall, SETUP);
        Check.load(hall, "a" + TEXT);
        hall.mark(2);
        hall.saveSnapshot(1);
        hall.mark(9);
        hall.setColours(4);
        hall.setCosts(6, 5, 4);
        hall.erase(0, 1);
        hall.report();
        Check.script(hall, "want 2; want");
        Check.feed(hall, INPUT);
        return hall;
    }

    /** All that the questions answer; the hall stays as it is. */
    static String seen(BracketHall hall) {
        StringBuilder seen = new StringBuilder(state(hall));
        for (int what = 0; what <= 13; what++) {
            seen.append(" size ").append(hall.size(what));
        }
        for (int what = 1; what <= 8; what++) {
            seen.append(" look ").append(Check.looks(hall, what));
        }
        for (int k = 0; k < hall.size(3); k++) {
            seen.append(" lone ").append(hall.lone(k));
        }
        seen.append(" widest ").append(hall.widest()).append(" mean ").append(hall.meanDepth());
        seen.append(" share ").append(hall.share()).append(" cost ").append(hall.repairCost());
        seen.append(" steps ").append(Check.stepsOf(hall)).append(" culprit ").append(hall.culprit());
        seen.append(" error ").append(hall.errorPosition()).append(" report ");
        for (int index = 0; hall.reportByte(index) != -1; index++) {
            seen.append((char) hall.reportByte(index));
        }
        return seen.toString();
    }

    /** What changes can change. */
    static String state(BracketHall hall) {
        return "text " + Check.textOf(hall) + " marks " + Check.marksOf(hall) + " colours " + hall.size(5)
            + " costs " + hall.size(11) + " " + hall.size(12) + " " + hall.size(13);
    }

    /** All that there is but for the input buffer; the hall is used up by it. */
    static String all(BracketHall hall) {
        StringBuilder all = new StringBuilder(seen(hall));
        while (hall.undo() != -1) {
            all.append("\nundone ").append(state(hall));
        }
        for (int slot = 0; slot < 2; slot++) {
            try {
                hall.restoreSnapshot(slot);
                all.append("\nslot ").append(state(hall));
            } catch (IllegalStateException e) {
                all.append("\nslot empty");
            }
        }
        return all.toString();
    }

    /** The number of bytes in the input buffer, if they are not more than 580; adds twenty to them. */
    static int buffered(BracketHall hall) {
        return hall.append(0, 0, 0, 0, 0) - 20;
    }

    /** A call on hall() that answers so and changes nothing; the buffer is not asked. */
    private static void dueNothingElse(String call, BracketHall behind) {
        Check.dueText("what is behind " + call, all(behind), all(hall()));
    }

    /** A call that throws this exception and changes nothing. */
    static void dueThrow(String call, Class<? extends RuntimeException> want, Asked asked) {
        BracketHall hall = hall();
        Check.dueThrow(call, want, () -> asked.answer(hall));
        int length = buffered(hall);
        Check.due("bytes in the buffer behind " + call, length, INPUT.length());
        dueNothingElse(call, hall);
        hall.load(length);
        Check.dueText("the buffer behind " + call, Check.textOf(hall), INPUT);
    }

    static void dueNoPlace(String call, Asked asked) {
        dueThrow(call, IndexOutOfBoundsException.class, asked);
    }

    static void dueNoArgument(String call, Asked asked) {
        dueThrow(call, IllegalArgumentException.class, asked);
    }

    static void dueNoElement(String call, Asked asked) {
        dueThrow(call, java.util.NoSuchElementException.class, asked);
    }

    /** A call that answers so, changes nothing else and leaves the buffer as it was. */
    static void dueNothing(String call, int want, Asked asked) {
        BracketHall hall = hall();
        Check.due(call, asked.answer(hall), want);
        Check.due("bytes in the buffer behind " + call, buffered(hall), INPUT.length());
        dueNothingElse(call, hall);
    }

    /** A call that answers so, empties the buffer and changes nothing else. */
    static void dueOnlyEmptied(String call, int want, Asked asked) {
        BracketHall hall = hall();
        Check.due(call, asked.answer(hall), want);
        Check.due("bytes in the buffer behind " + call, buffered(hall), 0);
        dueNothingElse(call, hall);
    }

    /** Numbers that are out of a range: those next to it and the farthest ones. */
    static int[] outside(int least, int most) {
        return new int[] {Integer.MIN_VALUE, least - 1, most + 1, Integer.MAX_VALUE};
    }
}
