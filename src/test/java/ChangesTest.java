/** Promises 19 to 25, 30 and 31: common, isWithin, likeness, add, remove, clear, mark, keep, unite. */
public final class ChangesTest {
    public static void main(String[] args) {
        twoSets();
        add();
        remove();
        clear();
        mark();
        keep();
        keepWithCursors();
        unite();
        Check.end();
    }

    private static void twoSets() {
        TwinSets x = Check.sets("sets 64 9;set a;set b;set c;set d;add a 0 1 63;add b 63 0 5 1;add c 9;");
        Check.same("common(0, 1)", x.common(0, 1), 3);
        Check.same("common(0, 2)", x.common(0, 2), 0);
        Check.same("common(0, 0)", x.common(0, 0), 3);
        Check.same("common(3, 3)", x.common(3, 3), 0);
        Check.same("isWithin(0, 1)", x.isWithin(0, 1), true);
        Check.same("isWithin(1, 0)", x.isWithin(1, 0), false);
        Check.same("isWithin(0, 0)", x.isWithin(0, 0), true);
        Check.same("isWithin(3, 0)", x.isWithin(3, 0), true);
        Check.same("isWithin(0, 3)", x.isWithin(0, 3), false);
        Check.same("isWithin(3, 3)", x.isWithin(3, 3), true);
        Check.same("likeness(0, 1)", x.likeness(0, 1), 3.0 / 4);
        Check.same("likeness(1, 0)", x.likeness(1, 0), 3.0 / 4);
        Check.same("likeness(0, 2)", x.likeness(0, 2), 0.0);
        Check.same("likeness(0, 0)", x.likeness(0, 0), 1.0);
        Check.same("likeness(3, 3)", x.likeness(3, 3), 1.0);
        Check.same("likeness(3, 0)", x.likeness(3, 0), 0.0);
        x.remove(0, 63);
        x.add(0, 9);
        Check.same("likeness of thirds", x.likeness(0, 2), 1.0 / 3);
        x.clear(2);
        Check.same("likeness of two empty ones", x.likeness(2, 3), 1.0);
        Check.same("a removed number is in no set", x.common(0, 1), 2);
        for (int bad : new int[] {4, -1, 5, Integer.MAX_VALUE, Integer.MIN_VALUE}) {
            Check.throwsIndex("common(" + bad + ", 0)", () -> x.common(bad, 0));
            Check.throwsIndex("common(0, " + bad + ")", () -> x.common(0, bad));
            Check.throwsIndex("isWithin(" + bad + ", 0)", () -> x.isWithin(bad, 0));
            Check.throwsIndex("isWithin(3, " + bad + ")", () -> x.isWithin(3, bad));
            Check.throwsIndex("likeness(" + bad + ", 0)", () -> x.likeness(bad, 0));
            Check.throwsIndex("likeness(3, " + bad + ")", () -> x.likeness(3, bad));
            Check.throwsIndex("keep(" + bad + ", 0)", () -> x.keep(bad, 0));
            Check.throwsIndex("keep(0, " + bad + ")", () -> x.keep(0, bad));
            Check.throwsIndex("unite(" + bad + ", 0)", () -> x.unite(bad, 0));
            Check.throwsIndex("unite(0, " + bad + ")", () -> x.unite(0, bad));
            Check.throwsIndex("unite(" + bad + ", " + bad + ")", () -> x.unite(bad, bad));
            Check.throwsIndex("clear(" + bad + ")", () -> x.clear(bad));
            Check.throwsIndex("add(" + bad + ", 0)", () -> x.add(bad, 0));
            Check.throwsIndex("add(" + bad + ", 64)", () -> x.add(bad, 64));
            Check.throwsIndex("remove(" + bad + ", 0)", () -> x.remove(bad, 0));
            Check.throwsIndex("remove(" + bad + ", -1)", () -> x.remove(bad, -1));
            Check.throwsIndex("open(" + bad + ", true)", () -> x.open(bad, true));
        }
        Check.same("none of these is a change", x.size(7), 3);
    }

    private static void state(String when, TwinSets x, int clock, int cost, int changes) {
        Check.same(when + ": clock", x.size(3), clock);
        Check.same(when + ": cost", x.size(6), cost);
        Check.same(when + ": changes", x.size(7), changes);
    }

    private static void add() {
        TwinSets x = Check.sets("sets 3 9;set a;set b;");
        Check.same("add(0, 2)", x.add(0, 2), 0);
        state("add(0, 2)", x, 1, 2, 1);
        Check.same("add(0, 0)", x.add(0, 0), 1);
        Check.same("add(1, 0)", x.add(1, 0), 0);
        Check.same("add(0, 2) again", x.add(0, 2), 0);
        state("add(0, 2) again", x, 3, 6, 4);
        Check.same("stamp of a member that is added again", x.stampOf(0, 2), 1);
        Check.same("add(0, 1)", x.add(0, 1), 2);
        Check.members("add", x, 0, "2 0 1");
        for (int bad : new int[] {3, 64, -1, Integer.MAX_VALUE, Integer.MIN_VALUE}) {
            Check.throwsArgument("add(0, " + bad + ")", () -> x.add(0, bad));
            Check.throwsArgument("remove(0, " + bad + ")", () -> x.remove(0, bad));
        }
        state("add that throws", x, 4, 8, 5);
    }

    private static void remove() {
        TwinSets x = Check.sets("sets 9 9;set a;set b;add a 0 1 2 3;add b 1;");
        Check.same("remove(0, 1)", x.remove(0, 1), true);
        state("remove(0, 1)", x, 6, 12, 1);
        Check.members("remove(0, 1)", x, 0, "0 3 2");
        Check.same("remove(0, 1) again", x.remove(0, 1), false);
        state("remove(0, 1) again", x, 6, 12, 2);
        Check.same("remove(0, 2), the last", x.remove(0, 2), true);
        state("remove(0, 2)", x, 7, 12, 3);
        Check.same("remove(0, 0)", x.remove(0, 0), true);
        Check.same("remove(0, 3)", x.remove(0, 3), true);
        Check.same("remove of an empty set", x.remove(0, 3), false);
        state("removed all", x, 9, 14, 6);
        Check.same("size", x.set(0, 0), 0);
        Check.same("generation stays", x.set(0, 1), 0);
        Check.same("the other set stays", x.place(1, 1), 0);
    }

    private static void clear() {
        TwinSets x = Check.sets("sets 9 9;set a;set b;add a 0 1 2 3;add b 1;");
        Check.same("clear(0)", x.clear(0), 4);
        state("clear(0)", x, 6, 11, 1);
        Check.same("generation", x.set(0, 1), 1);
        Check.same("clear(0), empty", x.clear(0), 0);
        state("clear(0), empty", x, 6, 12, 2);
        Check.same("generation", x.set(0, 1), 2);
        Check.same("events", x.set(0, 3), 5);
        Check.same("the other set stays", x.set(1, 0), 1);
        Check.same("its generation", x.set(1, 1), 0);
        x.add(0, 7);
        Check.members("add behind clear", x, 0, "7");
    }

    private static void mark() {
        TwinSets x = Check.sets("sets 9 9;set a;mark;add a 0;");
        for (int i = 1; i < 8; i++) {
            Check.same("mark, time " + i, x.mark(), i);
            Check.same("marked(" + i + ")", x.marked(i), i);
            x.add(0, i);
        }
        Check.same("size(4)", x.size(4), 8);
        x.undo();
        int changes = x.size(7);
        Check.throwsState("a ninth mark", () -> x.mark());
        Check.same("that is no change", x.size(7), changes);
        state("marks cost nothing", x, 7, 14, changes);
    }

    private static void keep() {
        TwinSets x = Check.sets("sets 9 20;set a;set b;add a 0 1 2 3 4 5;add b 3 0 8;");
        Check.same("keep(0, 1)", x.keep(0, 1), 4);
        // From the last place down: 5 and 4 go, then 2 (3 moves to 2), then 1 (3 moves to 1).
        Check.members("keep(0, 1)", x, 0, "0 3");
        state("keep(0, 1)", x, 13, 22, 1);
        Check.same("the first that went", x.event(0, 6, 1), 5);
        Check.same("the second", x.event(0, 7, 1), 4);
        Check.same("the third", x.event(0, 8, 1), 2);
        Check.same("the fourth", x.event(0, 9, 1), 1);
        Check.members("the other set", x, 1, "3 0 8");
        Check.same("keep again", x.keep(0, 1), 0);
        Check.same("keep(0, 0)", x.keep(0, 0), 0);
        state("keep that removes nothing", x, 13, 22, 3);
        x.clear(1);
        Check.same("keep of nothing", x.keep(0, 1), 2);
        Check.members("keep of nothing", x, 0, "");
        Check.same("keep is no clear", x.set(0, 1), 0);
        Check.same("keep of an empty set", x.keep(0, 1), 0);
    }

    private static void keepWithCursors() {
        TwinSets x = Check.sets("sets 9 20;set a;set b;add a 0 1 2 3 4 5;add b 1 3 5;");
        x.open(0, false);
        for (int i = 0; i < 4; i++) {
            x.step(0);
        }
        int cost = x.size(6);
        Check.same("keep(0, 1)", x.keep(0, 1), 3);
        // 4 out: 5 to 4. 2 out: 3 to 2, position 3, 5 to 3. 0 out: 3 to 0, position 2, 5 to 2.
        Check.members("keep(0, 1)", x, 0, "3 1 5");
        Check.same("position", x.cursor(0, 1), 2);
        Check.same("five moves", x.size(6), cost + 10);
        Check.same("what is ahead", x.step(0), 5);
    }

    private static void unite() {
        TwinSets x = Check.sets("sets 64 3;set a;set b;add a 0 1;add b 63 1 2 0 7;");
        x.open(0, false);
        Check.same("unite(0, 1)", x.unite(0, 1), 3);
        Check.members("unite(0, 1)", x, 0, "0 1 63 2 7");
        state("unite(0, 1)", x, 10, 20, 2);
        Check.same("stamp of the first that came", x.stampOf(0, 63), 8);
        Check.same("unite again", x.unite(0, 1), 0);
        Check.same("unite(1, 1)", x.unite(1, 1), 0);
        Check.members("the other set", x, 1, "63 1 2 0 7");
        state("unite with nothing new", x, 10, 20, 4);
        Check.same("a cursor stays open", x.cursor(0, 2), 1);
        Check.same("undo of all that came", x.undo() + x.undo() + x.undo(), 6);
        Check.members("undo", x, 0, "0 1");
        x.remove(1, 0);
        x.remove(1, 7);
        Check.same("cells behind the last member count for nothing", x.unite(0, 1), 2);
        Check.members("unite(0, 1)", x, 0, "0 1 63 2");
        x.clear(1);
        Check.same("unite with an empty set", x.unite(0, 1), 0);
    }
}
