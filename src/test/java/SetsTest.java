/** Promises 8 to 16: set, cell, place, stampOf, event, at, differs, since, fullest. */
public final class SetsTest {
    public static void main(String[] args) {
        set();
        cellAndPlace();
        stampOf();
        event();
        forgottenEvents();
        at();
        differs();
        since();
        fullest();
        Check.end();
    }

    private static void set() {
        TwinSets x = Check.sets("sets 9 3;set a;set b;add a 1 2;clear b;");
        x.open(0, false);
        x.open(0, true);
        x.open(1, false);
        int[] due = {2, 0, 0, 2, 2};
        for (int what = 0; what < 5; what++) {
            Check.same("set(0, " + what + ")", x.set(0, what), due[what]);
        }
        Check.same("set(1, 1)", x.set(1, 1), 1);
        x.step(2);
        Check.same("an ended cursor is not open", x.set(1, 4), 0);
        x.close(0);
        Check.same("a closed cursor is not open", x.set(0, 4), 1);
        Check.throwsIndex("set(2, 0)", () -> x.set(2, 0));
        Check.throwsIndex("set(-1, 0)", () -> x.set(-1, 0));
        Check.throwsIndex("set(2, 5)", () -> x.set(2, 5));
        Check.throwsIndex("set(least, 5)", () -> x.set(Integer.MIN_VALUE, 5));
        Check.throwsIndex("set(greatest, 5)", () -> x.set(Integer.MAX_VALUE, 5));
        Check.throwsArgument("set(0, 5)", () -> x.set(0, 5));
        Check.throwsArgument("set(0, -1)", () -> x.set(0, -1));
    }

    private static void cellAndPlace() {
        TwinSets x = Check.sets("sets 9 3;set a;set b;add a 8 2 5;remove a 8;");
        // The hole at place 0 takes 5; its old cell and the place of 8 keep what they held.
        Check.same("cell(0, 0, false)", x.cell(0, 0, false), 5);
        Check.same("cell(0, 1, false)", x.cell(0, 1, false), 2);
        Check.same("cell(0, 2, false)", x.cell(0, 2, false), 5);
        Check.same("cell(0, 3, false)", x.cell(0, 3, false), 0);
        Check.same("cell(0, 5, true)", x.cell(0, 5, true), 0);
        Check.same("cell(0, 2, true)", x.cell(0, 2, true), 1);
        Check.same("cell(0, 8, true)", x.cell(0, 8, true), 0);
        Check.same("place(0, 5)", x.place(0, 5), 0);
        Check.same("place(0, 2)", x.place(0, 2), 1);
        Check.same("place(0, 8)", x.place(0, 8), -1);
        Check.same("place(0, 0)", x.place(0, 0), -1);
        Check.same("place(0, 9)", x.place(0, 9), -1);
        Check.same("place(0, 64)", x.place(0, 64), -1);
        Check.same("place(0, -1)", x.place(0, -1), -1);
        Check.same("place(0, greatest)", x.place(0, Integer.MAX_VALUE), -1);
        Check.same("place(0, least)", x.place(0, Integer.MIN_VALUE), -1);
        Check.same("place(1, 5)", x.place(1, 5), -1);
        x.clear(0);
        Check.same("cell(0, 0, false) behind clear", x.cell(0, 0, false), 5);
        Check.same("cell(0, 2, true) behind clear", x.cell(0, 2, true), 1);
        Check.same("place(0, 5) behind clear", x.place(0, 5), -1);
        x.add(0, 0);
        Check.same("0 is a member", x.place(0, 0), 0);
        Check.same("5 is not, though its place is 0", x.place(0, 5), -1);
        Check.throwsIndex("cell(2, 0, true)", () -> x.cell(2, 0, true));
        Check.throwsIndex("cell(-1, 9, true)", () -> x.cell(-1, 9, true));
        Check.throwsArgument("cell(0, 9, true)", () -> x.cell(0, 9, true));
        Check.throwsArgument("cell(0, 9, false)", () -> x.cell(0, 9, false));
        Check.throwsArgument("cell(0, 64, false)", () -> x.cell(0, 64, false));
        Check.throwsArgument("cell(0, -1, false)", () -> x.cell(0, -1, false));
        Check.throwsIndex("place(2, 0)", () -> x.place(2, 0));
        Check.throwsIndex("place(-1, 99)", () -> x.place(-1, 99));
    }

    private static void stampOf() {
        TwinSets x = Check.sets("sets 9 1;set a;set b;add a 8 2 8;add b 8;remove a 8;add a 8;");
        Check.same("stampOf(0, 2)", x.stampOf(0, 2), 2);
        Check.same("stampOf(1, 8)", x.stampOf(1, 8), 3);
        Check.same("stampOf(0, 8), come again", x.stampOf(0, 8), 5);
        Check.same("stampOf(0, 0)", x.stampOf(0, 0), -1);
        Check.same("stampOf(0, 9)", x.stampOf(0, 9), -1);
        Check.same("stampOf(0, 64)", x.stampOf(0, 64), -1);
        Check.same("stampOf(0, -1)", x.stampOf(0, -1), -1);
        x.remove(0, 8);
        Check.same("stampOf(0, 8), removed", x.stampOf(0, 8), -1);
        Check.throwsIndex("stampOf(2, 8)", () -> x.stampOf(2, 8));
        Check.throwsIndex("stampOf(-1, -1)", () -> x.stampOf(-1, -1));
    }

    private static void event(TwinSets x, int set, int k, int stamp, int number, int kind) {
        Check.same("event(" + set + ", " + k + ", 0)", x.event(set, k, 0), stamp);
        Check.same("event(" + set + ", " + k + ", 1)", x.event(set, k, 1), number);
        Check.same("event(" + set + ", " + k + ", 2)", x.event(set, k, 2), kind);
    }

    private static void event() {
        TwinSets x = Check.sets("sets 9 9;set a;set b;add a 8;add b 2;remove a 8 8;clear a;add a 3 3;clear a;clear a;");
        event(x, 0, 0, 1, 8, 0);
        event(x, 0, 1, 3, 8, 1);
        event(x, 0, 2, 4, 3, 0);
        event(x, 0, 3, 5, -1, 2);
        event(x, 0, 4, -1, -1, -1);
        event(x, 0, -1, -1, -1, -1);
        event(x, 0, Integer.MAX_VALUE, -1, -1, -1);
        event(x, 0, Integer.MIN_VALUE, -1, -1, -1);
        event(x, 1, 0, 2, 2, 0);
        event(x, 1, 1, -1, -1, -1);
        Check.throwsIndex("event(2, 0, 0)", () -> x.event(2, 0, 0));
        Check.throwsIndex("event(-1, 0, 3)", () -> x.event(-1, 0, 3));
        Check.throwsArgument("event(0, 0, 3)", () -> x.event(0, 0, 3));
        Check.throwsArgument("event(0, 0, -1)", () -> x.event(0, 0, -1));
        Check.throwsArgument("event(0, 99, 3)", () -> x.event(0, 99, 3));
        Check.throwsArgument("event(0, -1, -1)", () -> x.event(0, -1, -1));
    }

    private static void forgottenEvents() {
        TwinSets x = Check.sets("sets 9 2;set a;set b;add a 1 2;");
        Check.same("first stamp, nothing forgotten", x.set(0, 2), 0);
        x.add(1, 5);
        Check.same("another set's events forget nothing", x.set(0, 2), 0);
        x.add(0, 3);
        Check.same("first stamp, one forgotten", x.set(0, 2), 1);
        Check.same("events that are kept", x.set(0, 3), 2);
        event(x, 0, 0, 2, 2, 0);
        event(x, 0, 1, 4, 3, 0);
        event(x, 0, 2, -1, -1, -1);
        x.clear(0);
        x.add(0, 7);
        Check.same("first stamp, three forgotten", x.set(0, 2), 4);
        Check.same("at the first stamp", x.at(0, 4), 0b1110);
        event(x, 0, 0, 5, -1, 2);
        x.add(0, 8);
        Check.same("at the first stamp, clear forgotten", x.at(0, 5), 0);
        TwinSets y = Check.sets("sets 64 60;set a;");
        for (int number = 0; number < 64; number++) {
            y.add(0, number);
        }
        Check.same("60 events", y.set(0, 3), 60);
        Check.same("the first stamp behind 64", y.set(0, 2), 4);
        Check.same("at the first stamp behind 64", y.at(0, 4), 0b1111);
        Check.same("at the last", y.at(0, 64), -1L);
        event(y, 0, 0, 5, 4, 0);
        event(y, 0, 59, 64, 63, 0);
    }

    private static void at() {
        TwinSets x = Check.sets("sets 64 4;set a;set b;add a 0;add b 1;add a 63;remove a 0;clear a;add a 5;");
        // a: 0 (1), 63 (3), 0 removed (4), cleared (5), 5 (6); the event 1 is forgotten
        Check.same("at(0, 1)", x.at(0, 1), 1L);
        Check.same("at(0, 2)", x.at(0, 2), 1L);
        Check.same("at(0, 3)", x.at(0, 3), Long.MIN_VALUE + 1);
        Check.same("at(0, 4)", x.at(0, 4), Long.MIN_VALUE);
        Check.same("at(0, 5)", x.at(0, 5), 0L);
        Check.same("at(0, 6)", x.at(0, 6), 32L);
        Check.same("at(1, 0)", x.at(1, 0), 0L);
        Check.same("at(1, 6)", x.at(1, 6), 2L);
        Check.throwsArgument("at(0, 0)", () -> x.at(0, 0));
        Check.throwsArgument("at(0, 7)", () -> x.at(0, 7));
        Check.throwsArgument("at(1, -1)", () -> x.at(1, -1));
        Check.throwsArgument("at(1, 7)", () -> x.at(1, 7));
        Check.throwsIndex("at(2, 1)", () -> x.at(2, 1));
        Check.throwsIndex("at(-1, -1)", () -> x.at(-1, -1));
    }

    private static void differs() {
        TwinSets x = Check.sets("sets 64 5;set a;add a 0 1 2 63;remove a 1;add a 7;");
        // first stamp 1: {0}; 4: {0 1 2 63}; 5: {0 2 63}; 6: {0 2 7 63}
        Check.same("differs(0, 1, 6, true)", x.differs(0, 1, 6, true), 3);
        Check.same("differs(0, 1, 6, false)", x.differs(0, 1, 6, false), 0);
        Check.same("differs(0, 6, 1, true)", x.differs(0, 6, 1, true), 0);
        Check.same("differs(0, 6, 1, false)", x.differs(0, 6, 1, false), 3);
        Check.same("differs(0, 4, 6, true)", x.differs(0, 4, 6, true), 1);
        Check.same("differs(0, 4, 6, false)", x.differs(0, 4, 6, false), 1);
        Check.same("differs(0, 4, 4, true)", x.differs(0, 4, 4, true), 0);
        Check.same("differs(0, 4, 4, false)", x.differs(0, 4, 4, false), 0);
        Check.throwsArgument("differs(0, 0, 6, true)", () -> x.differs(0, 0, 6, true));
        Check.throwsArgument("differs(0, 6, 0, true)", () -> x.differs(0, 6, 0, true));
        Check.throwsArgument("differs(0, 7, 6, false)", () -> x.differs(0, 7, 6, false));
        Check.throwsArgument("differs(0, 6, 7, false)", () -> x.differs(0, 6, 7, false));
        Check.throwsIndex("differs(1, 7, 7, true)", () -> x.differs(1, 7, 7, true));
        Check.throwsIndex("differs(-1, 1, 1, true)", () -> x.differs(-1, 1, 1, true));
    }

    private static void since() {
        TwinSets x = Check.sets("sets 64 5;set a;set b;add a 0;add b 0;add a 1 63;remove a 1;clear a;add a 1;");
        // a: 0 (1, forgotten), 1 (3), 63 (4), 1 removed (5), cleared (6), 1 (7)
        Check.same("since(0, 0)", x.since(0, 0), 6);
        Check.same("since(0, 1)", x.since(0, 1), 7);
        Check.same("since(0, 63)", x.since(0, 63), 6);
        Check.same("since(0, 2)", x.since(0, 2), -1);
        Check.same("since(1, 0)", x.since(1, 0), 2);
        x.remove(0, 1);
        x.clear(0);
        Check.same("a number that was removed before the set is cleared", x.since(0, 1), 8);
        x.add(0, 4);
        x.add(0, 5);
        x.clear(0);
        Check.same("a clear while it was no member", x.since(0, 1), 8);
        x.add(0, 6);
        x.add(0, 7);
        Check.same("its event is forgotten", x.since(0, 1), -1);
        Check.throwsArgument("since(0, 64)", () -> x.since(0, 64));
        Check.throwsArgument("since(0, -1)", () -> x.since(0, -1));
        Check.throwsIndex("since(2, 64)", () -> x.since(2, 64));
        Check.throwsIndex("since(-1, 0)", () -> x.since(-1, 0));
        TwinSets y = Check.sets("sets 3 2;set a;");
        Check.throwsArgument("since(0, 3) of 3", () -> y.since(0, 3));
        y.add(0, 1);
        y.add(0, 2);
        y.add(0, 0);
        Check.same("a member whose coming is forgotten", y.since(0, 1), -1);
    }

    private static void fullest() {
        TwinSets x = Check.sets("sets 64 4;set a;set b;add b 9;add a 1 2;remove a 2;add a 3;");
        // a: 1 (2), 2 (3), 2 removed (4), 3 (5)
        Check.same("of several the least", x.fullest(0), 3);
        Check.same("fullest(1)", x.fullest(1), 1);
        x.clear(0);
        Check.same("first stamp 2", x.set(0, 2), 2);
        Check.same("fullest behind clear", x.fullest(0), 3);
        x.clear(1);
        x.add(0, 5);
        Check.same("the first stamp is the fullest", x.fullest(0), 3);
        Check.same("first stamp 3", x.set(0, 2), 3);
        x.add(0, 6);
        x.add(0, 7);
        Check.same("three are more than one", x.fullest(0), 10);
        TwinSets y = Check.sets("sets 2 2;set a;");
        Check.same("of an empty one", y.fullest(0), 0);
        Check.throwsIndex("fullest(1)", () -> y.fullest(1));
        Check.throwsIndex("fullest(-1)", () -> y.fullest(-1));
    }
}
