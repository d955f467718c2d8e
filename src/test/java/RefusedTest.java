/**
 * Calls that are refused: which exception they throw, which check comes first, and that nothing has changed behind
 * them. Two objects are made by the same calls; one of them also gets the call that is refused, and then they must
 * not differ in anything: what they hold, their history, their slots and their buffer.
 */
public final class RefusedTest {
    private interface Call {
        void make(TwinSets x);
    }

    private static final int VIEWS = 4;
    private static final int[] NO_SETS = {-1, 2, 5, Integer.MAX_VALUE, Integer.MIN_VALUE};
    // The cursor 4 was closed.
    private static final int[] NO_CURSORS = {-1, 4, 6, Integer.MAX_VALUE, Integer.MIN_VALUE};
    private static final int[] NO_SLOTS = {-1, 2, Integer.MAX_VALUE, Integer.MIN_VALUE};
    private static final int[] NO_NUMBERS = {-1, 3, 64, Integer.MAX_VALUE, Integer.MIN_VALUE};
    private static final int[] ALL = {0, 1};

    private static final String[] VIEWS_DUE = new String[VIEWS];
    private static final String[] FULL_VIEWS_DUE = new String[VIEWS];

    public static void main(String[] args) {
        for (int view = 0; view < VIEWS; view++) {
            VIEWS_DUE[view] = view(busy(), view);
            FULL_VIEWS_DUE[view] = view(full(), view);
        }
        parse();
        size();
        setAndCell();
        placeAndStampOf();
        event();
        at();
        differs();
        sinceAndFullest();
        cursor();
        ahead();
        twoSets();
        addAndRemove();
        clear();
        mark();
        open();
        openWithSixCursors();
        closeAndStep();
        removeMet();
        keepAndUnite();
        slots();
        whatOnlyAsks();
        newObject();
        Check.end();
    }

    // ---- the two objects

    /**
     * Two sets of universe 3, the first with forgotten events, at the clock 8; eight marks; an open cursor that has
     * met a member (0), one that has met none (1), an ended one (2), one whose member was removed (3), a closed one
     * (4), a strict one (5); ten changes that can be undone, slot 0 full, slot 1 empty, "b" in the buffer.
     */
    private static TwinSets busy() {
        TwinSets x = Check.sets("sets 3 2;set a;set b;add a 2 0 1;add b 1;mark;mark;mark;mark;mark;mark;mark;");
        for (int cursor = 0; cursor < 6; cursor++) {
            x.open(cursor == 2 ? 1 : 0, cursor == 5);
        }
        x.step(2);
        x.add(1, 2);
        x.saveSnapshot(0);
        x.step(2);
        x.step(2);
        x.step(3);
        x.remove(0, 2);
        x.step(0);
        x.add(0, 2);
        x.remove(0, 2);
        x.close(4);
        x.add(1, 2);
        x.mark();
        Check.same("parse with an error", Check.parse(x, "sets x"), 1);
        Check.append(x, "b");
        return x;
    }

    /** The same, with a cursor 4. */
    private static TwinSets full() {
        TwinSets x = busy();
        x.open(0, true);
        return x;
    }

    private static String view(TwinSets x, int which) {
        StringBuilder seen = new StringBuilder();
        seen.append(x.size(7)).append(' ').append(x.errorPosition()).append(' ');
        if (which == 0) {
            seen.append(Look.all(x)).append(x.find()).append(' ').append(x.append(0, 0, 0, 0, 0));
        } else if (which == 1) {
            for (int i = 0; i < 11; i++) {
                seen.append(x.undo()).append(": ").append(x.size(3)).append(' ').append(x.size(4)).append(' ').append(x.size(5))
                        .append(' ').append(x.size(6)).append(' ').append(x.at(0, x.size(3))).append(' ').append(x.at(1, x.size(3)))
                        .append(' ').append(x.cursor(0, 1)).append(' ').append(x.cursor(2, 1)).append(' ');
            }
        } else if (which == 2) {
            seen.append(x.saveSnapshot(1)).append(' ').append(x.restoreSnapshot(0)).append(' ').append(Look.all(x));
        } else {
            seen.append(x.append(0, 0, 0, 0, 0)).append(' ').append(x.parse(40)).append(' ').append(x.errorPosition());
        }
        return seen.toString();
    }

    private static void nothingChanges(String call, Call made) {
        for (int view = 0; view < VIEWS; view++) {
            TwinSets x = busy();
            made.make(x);
            Check.same(call + " changes nothing", view(x, view), VIEWS_DUE[view]);
        }
    }

    private static void index(String call, Call refused) {
        nothingChanges(call, x -> Check.throwsIndex(call, () -> refused.make(x)));
    }

    private static void argument(String call, Call refused) {
        nothingChanges(call, x -> Check.throwsArgument(call, () -> refused.make(x)));
    }

    private static void state(String call, Call refused) {
        nothingChanges(call, x -> Check.throwsState(call, () -> refused.make(x)));
    }

    // ---- promises 3 to 12

    private static void parse() {
        Check.sentence("Promise 3", "Throws `IllegalArgumentException` if length is out of range");
        for (int length : new int[] {-1, 21, 40, 600, 601, Integer.MAX_VALUE, Integer.MIN_VALUE}) {
            argument("parse(" + length + ")", x -> x.parse(length));
        }
    }

    private static void size() {
        Check.sentence("Promise 5", "Throws `IllegalArgumentException` if what is out of range");
        for (int what : new int[] {-1, 8, Integer.MAX_VALUE, Integer.MIN_VALUE}) {
            argument("size(" + what + ")", x -> x.size(what));
        }
    }

    private static void setAndCell() {
        Check.sentence("Promise 8", "Throws `IndexOutOfBoundsException` if there is no such set (checked first)");
        for (int set : NO_SETS) {
            index("set(" + set + ", 0)", x -> x.set(set, 0));
            index("set(" + set + ", 5)", x -> x.set(set, 5));
            index("set(" + set + ", -1)", x -> x.set(set, -1));
        }
        Check.sentence("Promise 8", "Throws `IllegalArgumentException` if what is out of range");
        for (int what : new int[] {-1, 5, Integer.MAX_VALUE, Integer.MIN_VALUE}) {
            argument("set(0, " + what + ")", x -> x.set(0, what));
            argument("set(1, " + what + ")", x -> x.set(1, what));
        }
        Check.sentence("Promise 9", "Throws `IndexOutOfBoundsException` if there is no such set (checked first)");
        for (int set : NO_SETS) {
            index("cell(" + set + ", 0, true)", x -> x.cell(set, 0, true));
            index("cell(" + set + ", 3, true)", x -> x.cell(set, 3, true));
            index("cell(" + set + ", -1, false)", x -> x.cell(set, -1, false));
        }
        Check.sentence("Promise 9", "Throws `IllegalArgumentException` if there is no such cell");
        for (int cell : NO_NUMBERS) {
            argument("cell(0, " + cell + ", true)", x -> x.cell(0, cell, true));
            argument("cell(1, " + cell + ", false)", x -> x.cell(1, cell, false));
        }
    }

    private static void placeAndStampOf() {
        Check.sentence("Promise 10", "Throws `IndexOutOfBoundsException` if there is no such set");
        for (int set : NO_SETS) {
            index("place(" + set + ", 0)", x -> x.place(set, 0));
            index("place(" + set + ", 3)", x -> x.place(set, 3));
        }
        Check.sentence("Promise 11", "Throws `IndexOutOfBoundsException` if there is no such set");
        for (int set : NO_SETS) {
            index("stampOf(" + set + ", 0)", x -> x.stampOf(set, 0));
            index("stampOf(" + set + ", -1)", x -> x.stampOf(set, -1));
        }
    }

    private static void event() {
        Check.sentence("Promise 12", "Throws `IndexOutOfBoundsException` if there is no such set (checked first)");
        for (int set : NO_SETS) {
            index("event(" + set + ", 0, 0)", x -> x.event(set, 0, 0));
            index("event(" + set + ", 0, 3)", x -> x.event(set, 0, 3));
            index("event(" + set + ", -1, -1)", x -> x.event(set, -1, -1));
        }
        Check.sentence("Promise 12", "Throws `IllegalArgumentException` if part is out of range");
        for (int part : new int[] {-1, 3, Integer.MAX_VALUE, Integer.MIN_VALUE}) {
            argument("event(0, 0, " + part + ")", x -> x.event(0, 0, part));
            argument("event(1, 1, " + part + ")", x -> x.event(1, 1, part));
            // Also where the answer would be NONE: there are two events.
            argument("event(0, 2, " + part + ")", x -> x.event(0, 2, part));
            argument("event(0, -1, " + part + ")", x -> x.event(0, -1, part));
        }
    }

    // ---- promises 13 to 21

    private static void at() {
        TwinSets untouched = busy();
        int clock = untouched.size(3);
        int first = untouched.set(0, 2);
        Check.same("some events are forgotten", first > 0, true);
        Check.sentence("Promise 13", "Throws `IndexOutOfBoundsException` if there is no such set (checked first)");
        for (int set : NO_SETS) {
            index("at(" + set + ", " + clock + ")", x -> x.at(set, clock));
            index("at(" + set + ", " + (clock + 1) + ")", x -> x.at(set, clock + 1));
            index("at(" + set + ", -1)", x -> x.at(set, -1));
        }
        Check.sentence("Promise 13", "if the stamp is less than the first stamp of the set or greater than the clock");
        for (int stamp : new int[] {first - 1, clock + 1, -1, Integer.MAX_VALUE, Integer.MIN_VALUE}) {
            argument("at(0, " + stamp + ")", x -> x.at(0, stamp));
        }
    }

    private static void differs() {
        TwinSets untouched = busy();
        int clock = untouched.size(3);
        int first = untouched.set(0, 2);
        Check.sentence("Promise 14", "Throws `IndexOutOfBoundsException` if there is no such set (checked first)");
        for (int set : NO_SETS) {
            index("differs(" + set + ", " + clock + ", " + clock + ", true)", x -> x.differs(set, clock, clock, true));
            index("differs(" + set + ", -1, " + clock + ", false)", x -> x.differs(set, -1, clock, false));
            index("differs(" + set + ", " + clock + ", -1, true)", x -> x.differs(set, clock, -1, true));
        }
        Check.sentence("Promise 14", "Throws `IllegalArgumentException` if one of the stamps is out of range, as for at");
        for (int stamp : new int[] {first - 1, clock + 1, -1, Integer.MAX_VALUE, Integer.MIN_VALUE}) {
            argument("differs(0, " + stamp + ", " + clock + ", true)", x -> x.differs(0, stamp, clock, true));
            argument("differs(0, " + first + ", " + stamp + ", false)", x -> x.differs(0, first, stamp, false));
            argument("differs(0, " + stamp + ", " + stamp + ", true)", x -> x.differs(0, stamp, stamp, true));
        }
    }

    private static void sinceAndFullest() {
        Check.sentence("Promise 15", "Throws `IndexOutOfBoundsException` if there is no such set (checked first)");
        for (int set : NO_SETS) {
            index("since(" + set + ", 0)", x -> x.since(set, 0));
            index("since(" + set + ", 3)", x -> x.since(set, 3));
            index("since(" + set + ", -1)", x -> x.since(set, -1));
        }
        Check.sentence("Promise 15", "Throws `IllegalArgumentException` if number is out of the universe");
        for (int number : NO_NUMBERS) {
            argument("since(0, " + number + ")", x -> x.since(0, number));
            argument("since(1, " + number + ")", x -> x.since(1, number));
        }
        Check.sentence("Promise 16", "Throws `IndexOutOfBoundsException` if there is no such set");
        for (int set : NO_SETS) {
            index("fullest(" + set + ")", x -> x.fullest(set));
        }
    }

    private static void cursor() {
        Check.sentence("Promise 17", "Throws `IndexOutOfBoundsException` if there is no such cursor (checked first)");
        for (int cursor : NO_CURSORS) {
            index("cursor(" + cursor + ", 0)", x -> x.cursor(cursor, 0));
            index("cursor(" + cursor + ", 7)", x -> x.cursor(cursor, 7));
            index("cursor(" + cursor + ", -1)", x -> x.cursor(cursor, -1));
        }
        Check.sentence("Promise 17", "Throws `IllegalArgumentException` if what is out of range");
        for (int what : new int[] {-1, 7, Integer.MAX_VALUE, Integer.MIN_VALUE}) {
            argument("cursor(0, " + what + ")", x -> x.cursor(0, what));
            argument("cursor(2, " + what + ")", x -> x.cursor(2, what));
        }
    }

    private static void ahead() {
        Check.sentence("Promise 18", "Throws `IndexOutOfBoundsException` if there is no such cursor");
        for (int cursor : NO_CURSORS) {
            index("ahead(" + cursor + ")", x -> x.ahead(cursor));
        }
    }

    private static void twoSets() {
        Check.sentence("Promise 19", "Throws `IndexOutOfBoundsException` if one of the sets does not exist");
        for (int set : NO_SETS) {
            index("common(" + set + ", 0)", x -> x.common(set, 0));
            index("common(1, " + set + ")", x -> x.common(1, set));
            index("common(" + set + ", " + set + ")", x -> x.common(set, set));
        }
        Check.sentence("Promise 20", "Throws `IndexOutOfBoundsException` if one of the sets does not exist");
        for (int set : NO_SETS) {
            index("isWithin(" + set + ", 0)", x -> x.isWithin(set, 0));
            index("isWithin(1, " + set + ")", x -> x.isWithin(1, set));
            index("isWithin(" + set + ", " + set + ")", x -> x.isWithin(set, set));
        }
        Check.sentence("Promise 21", "Throws `IndexOutOfBoundsException` if one of the sets does not exist");
        for (int set : NO_SETS) {
            index("likeness(" + set + ", 0)", x -> x.likeness(set, 0));
            index("likeness(1, " + set + ")", x -> x.likeness(1, set));
            index("likeness(" + set + ", " + set + ")", x -> x.likeness(set, set));
        }
    }

    // ---- promises 22 to 31

    private static void addAndRemove() {
        Check.sentence("Promise 22", "Throws `IndexOutOfBoundsException` if there is no such set (checked first)");
        for (int set : NO_SETS) {
            index("add(" + set + ", 0)", x -> x.add(set, 0));
            index("add(" + set + ", 3)", x -> x.add(set, 3));
            index("add(" + set + ", -1)", x -> x.add(set, -1));
        }
        Check.sentence("Promise 22", "Throws `IllegalArgumentException` if number is out of the universe");
        for (int number : NO_NUMBERS) {
            argument("add(0, " + number + ")", x -> x.add(0, number));
        }
        Check.sentence("Promise 23", "Throws `IndexOutOfBoundsException` if there is no such set (checked first)");
        for (int set : NO_SETS) {
            index("remove(" + set + ", 0)", x -> x.remove(set, 0));
            index("remove(" + set + ", 3)", x -> x.remove(set, 3));
            index("remove(" + set + ", -1)", x -> x.remove(set, -1));
        }
        Check.sentence("Promise 23", "Throws `IllegalArgumentException` if number is out of the universe");
        for (int number : NO_NUMBERS) {
            argument("remove(0, " + number + ")", x -> x.remove(0, number));
        }
    }

    private static void clear() {
        Check.sentence("Promise 24", "Throws `IndexOutOfBoundsException` if there is no such set");
        for (int set : NO_SETS) {
            index("clear(" + set + ")", x -> x.clear(set));
        }
    }

    private static void mark() {
        Check.sentence("Promise 25", "Throws `IllegalStateException` if there are 8 marks");
        state("mark()", x -> x.mark());
    }

    private static void open() {
        Check.sentence("Promise 26", "Throws `IndexOutOfBoundsException` if there is no such set (checked first)");
        for (int set : NO_SETS) {
            index("open(" + set + ", true)", x -> x.open(set, true));
            index("open(" + set + ", false)", x -> x.open(set, false));
        }
    }

    private static void openWithSixCursors() {
        for (int view = 0; view < VIEWS; view++) {
            TwinSets x = full();
            Check.sentence("Promise 26", "Throws `IllegalStateException` if there are 6 cursors");
            for (int set : ALL) {
                Check.throwsState("open(" + set + ", true)", () -> x.open(set, true));
                Check.throwsState("open(" + set + ", false)", () -> x.open(set, false));
            }
            Check.sentence("Promise 26", "Throws `IndexOutOfBoundsException` if there is no such set (checked first)");
            for (int set : NO_SETS) {
                Check.throwsIndex("open(" + set + ", false), 6 cursors", () -> x.open(set, false));
            }
            Check.same("open changes nothing", view(x, view), FULL_VIEWS_DUE[view]);
        }
    }

    private static void closeAndStep() {
        Check.sentence("Promise 27", "Throws `IndexOutOfBoundsException` if there is no such cursor");
        for (int cursor : NO_CURSORS) {
            index("close(" + cursor + ")", x -> x.close(cursor));
        }
        Check.sentence("Promise 28", "Throws `IndexOutOfBoundsException` if there is no such cursor");
        for (int cursor : NO_CURSORS) {
            index("step(" + cursor + ")", x -> x.step(cursor));
        }
    }

    private static void removeMet() {
        Check.sentence("Promise 29", "Throws `IndexOutOfBoundsException` if there is no such cursor (checked first)");
        for (int cursor : NO_CURSORS) {
            index("removeMet(" + cursor + ")", x -> x.removeMet(cursor));
        }
        Check.sentence("Promise 29", "Throws `IllegalStateException` if it has not met one, has ended, or that number is no member now");
        TwinSets untouched = busy();
        Check.same("0 has met a member", untouched.place(0, untouched.cursor(0, 6)) >= 0, true);
        Check.same("1 has met none", untouched.cursor(1, 6), -1);
        state("removeMet(1)", x -> x.removeMet(1));
        Check.same("2 has ended", untouched.cursor(2, 2), 0);
        Check.same("its last one is a member", untouched.place(1, untouched.cursor(2, 6)) >= 0, true);
        state("removeMet(2)", x -> x.removeMet(2));
        Check.same("3 is open", untouched.cursor(3, 2), 1);
        Check.same("its last one is no member", untouched.place(0, untouched.cursor(3, 6)), -1);
        state("removeMet(3)", x -> x.removeMet(3));
    }

    private static void keepAndUnite() {
        Check.sentence("Promise 30", "Throws `IndexOutOfBoundsException` if one of the sets does not exist");
        for (int set : NO_SETS) {
            index("keep(" + set + ", 0)", x -> x.keep(set, 0));
            index("keep(0, " + set + ")", x -> x.keep(0, set));
            index("keep(" + set + ", " + set + ")", x -> x.keep(set, set));
        }
        Check.sentence("Promise 31", "Throws `IndexOutOfBoundsException` if one of the sets does not exist");
        for (int set : NO_SETS) {
            index("unite(" + set + ", 0)", x -> x.unite(set, 0));
            index("unite(0, " + set + ")", x -> x.unite(0, set));
            // Nothing happens if both are the same, but they must exist.
            index("unite(" + set + ", " + set + ")", x -> x.unite(set, set));
        }
    }

    // ---- promises 33 and 34

    private static void slots() {
        Check.sentence("Promise 33", "Throws `IndexOutOfBoundsException` if there is no such slot");
        for (int slot : NO_SLOTS) {
            index("saveSnapshot(" + slot + ")", x -> x.saveSnapshot(slot));
        }
        Check.sentence("Promise 34", "Throws `IndexOutOfBoundsException` if there is no such slot (checked first)");
        for (int slot : NO_SLOTS) {
            index("restoreSnapshot(" + slot + ")", x -> x.restoreSnapshot(slot));
        }
        Check.sentence("Promise 34", "Throws `IllegalStateException` if the slot is empty");
        state("restoreSnapshot(1)", x -> x.restoreSnapshot(1));
    }

    // ---- what is not refused and changes nothing, and a new object

    private static void whatOnlyAsks() {
        Check.sentence("Terms", "The methods from add to unite are changes");
        nothingChanges("errorPosition()", x -> x.errorPosition());
        for (int what = 0; what < 8; what++) {
            int asked = what;
            nothingChanges("size(" + what + ")", x -> x.size(asked));
            nothingChanges("marked(" + what + ")", x -> x.marked(asked));
        }
        for (int set : ALL) {
            nothingChanges("set, cell, place, stampOf, event", x -> {
                x.set(set, 4);
                x.cell(set, 2, true);
                x.cell(set, 0, false);
                x.place(set, 2);
                x.place(set, 64);
                x.stampOf(set, 2);
                x.stampOf(set, -1);
                x.event(set, 0, 1);
                x.event(set, 2, 1);
            });
            nothingChanges("at, differs, since, fullest", x -> {
                x.at(set, x.set(set, 2));
                x.differs(set, x.set(set, 2), x.size(3), true);
                x.since(set, 2);
                x.fullest(set);
            });
            nothingChanges("common, isWithin, likeness", x -> {
                x.common(set, 1);
                x.isWithin(set, 1);
                x.likeness(set, 1);
            });
        }
        for (int cursor : new int[] {0, 1, 2, 3, 5}) {
            nothingChanges("cursor, ahead", x -> {
                x.cursor(cursor, 6);
                x.ahead(cursor);
            });
        }
    }

    private static void newObject() {
        Check.sentence("Terms", "a set, cursor or slot that does not exist causes an IndexOutOfBoundsException, "
                + "which is checked before any other exception");
        TwinSets x = new TwinSets();
        Check.throwsIndex("set(0, -1)", () -> x.set(0, -1));
        Check.throwsIndex("cell(0, 1, true)", () -> x.cell(0, 1, true));
        Check.throwsIndex("place(0, 0)", () -> x.place(0, 0));
        Check.throwsIndex("stampOf(0, 0)", () -> x.stampOf(0, 0));
        Check.throwsIndex("event(0, 0, 3)", () -> x.event(0, 0, 3));
        Check.throwsIndex("at(0, -1)", () -> x.at(0, -1));
        Check.throwsIndex("differs(0, 0, 1, true)", () -> x.differs(0, 0, 1, true));
        Check.throwsIndex("since(0, 1)", () -> x.since(0, 1));
        Check.throwsIndex("fullest(0)", () -> x.fullest(0));
        Check.throwsIndex("cursor(0, 7)", () -> x.cursor(0, 7));
        Check.throwsIndex("ahead(0)", () -> x.ahead(0));
        Check.throwsIndex("common(0, 0)", () -> x.common(0, 0));
        Check.throwsIndex("isWithin(0, 0)", () -> x.isWithin(0, 0));
        Check.throwsIndex("likeness(0, 0)", () -> x.likeness(0, 0));
        Check.throwsIndex("add(0, 1)", () -> x.add(0, 1));
        Check.throwsIndex("remove(0, 1)", () -> x.remove(0, 1));
        Check.throwsIndex("clear(0)", () -> x.clear(0));
        Check.throwsIndex("open(0, true)", () -> x.open(0, true));
        Check.throwsIndex("close(0)", () -> x.close(0));
        Check.throwsIndex("step(0)", () -> x.step(0));
        Check.throwsIndex("removeMet(0)", () -> x.removeMet(0));
        Check.throwsIndex("keep(0, 0)", () -> x.keep(0, 0));
        Check.throwsIndex("unite(0, 0)", () -> x.unite(0, 0));
        Check.throwsIndex("saveSnapshot(2)", () -> x.saveSnapshot(2));
        Check.throwsIndex("restoreSnapshot(2)", () -> x.restoreSnapshot(2));
        Check.sentence("Terms", "A method that throws an exception changes nothing.");
        Check.same("nothing has changed", Look.all(x), Look.all(new TwinSets()));
        Check.same("there is no change", x.undo(), -1);
    }
}
