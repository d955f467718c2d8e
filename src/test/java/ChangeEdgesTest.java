/** The boundary cases of cost, changes and promises 19 to 25 and 30 to 34: a method for each sentence of the document. */
public final class ChangeEdgesTest {
    public static void main(String[] args) {
        calls512();
        costOfRows();
        costOfClear();
        costOfSteps();
        nothingElseCosts();
        changesThatAlterNothing();
        whatIsNoChange();
        latestTen();
        latestFirst();
        twoSlots();
        snapshotHoldsEverything();
        undoBringsBackEverything();
        parseBeginsAnew();
        commonNumbers();
        withinAnother();
        likenessOfEmpty();
        likenessDivided();
        addPlace();
        removeMember();
        removeNoMember();
        clearSize();
        markNumber();
        markRefused();
        keepFromTheLastPlace();
        keepLooksOnce();
        keepAllOrNone();
        uniteInOrder();
        uniteTheSame();
        uniteAllOrNone();
        undoNone();
        saveAgain();
        earlierSnapshot();
        restoreStays();
        restoreClock();
        restoreEmptySlot();
        Check.end();
    }

    private static void fill(TwinSets x, int set, int from, int to) {
        for (int number = from; number < to; number++) {
            x.add(set, number);
        }
    }

    private static void calls512() {
        Check.sentence("What it is", "An object is used for at most 512 calls after it has been made");
        TwinSets x = new TwinSets();
        x.append(0x73657473, 0x20363420, 0x36303B73, 0x65742061, 0x3B202020);
        Check.same("parse(\"sets 64 60;set a;\")", x.parse(20), 0);
        for (int call = 3; call <= 511; call += 2) {
            Check.same("call " + call, x.add(0, call % 64), 0);
            Check.same("call " + (call + 1), x.remove(0, call % 64), true);
        }
        Check.same("clock", x.size(3), 510);
        TwinSets y = new TwinSets();
        for (int call = 1; call <= 512; call++) {
            Check.same("call " + call, y.append(-1, -1, -1, -1, -1), call <= 30 ? 20 * call : -1);
        }
        TwinSets z = Check.sets("sets 64 60;set a;set b;set c;set d;set e;");
        // Three calls made it, and five calls are made a round.
        for (int round = 0; 3 + 5 * (round + 1) <= 512; round++) {
            z.add(round % 5, round % 64);
            Check.same("saveSnapshot", z.saveSnapshot(round % 2), round > 1);
            z.unite((round + 1) % 5, round % 5);
            Check.same("restoreSnapshot", z.restoreSnapshot(round % 2), z.size(3));
        }
    }

    // ---- the terms: cost

    private static void cost(TwinSets x, String call, int before, int due) {
        Check.same(call + ": cost", x.size(6) - before, due);
    }

    private static void costOfRows() {
        Check.sentence("Terms", "Each cell of a row that is written costs 1");
        TwinSets x = Check.sets("sets 64 60;set a;set b;");
        x.add(0, 5);
        cost(x, "add", 0, 2);
        x.add(0, 5);
        cost(x, "add of a member", 0, 2);
        x.remove(0, 6);
        cost(x, "remove of no member", 0, 2);
        x.remove(0, 5);
        cost(x, "remove of the last", 0, 2);
        fill(x, 0, 0, 64);
        cost(x, "64 come", 2, 128);
        x.remove(0, 0);
        cost(x, "remove of the first", 130, 2);
        x.unite(1, 0);
        cost(x, "unite of 63", 132, 126);
        x.unite(1, 0);
        cost(x, "unite of none", 258, 0);
        x.keep(1, 0);
        cost(x, "keep of all", 258, 0);
        x.clear(0);
        x.keep(1, 0);
        cost(x, "clear, and keep of none, each the last", 258, 1);
        Check.same("size", x.set(1, 0), 0);
    }

    private static void costOfClear() {
        Check.sentence("Terms", "to clear a set costs 1");
        TwinSets x = Check.sets("sets 64 60;set a;");
        x.clear(0);
        cost(x, "clear of an empty set", 0, 1);
        fill(x, 0, 0, 64);
        x.clear(0);
        cost(x, "clear of a full set", 129, 1);
        x.clear(0);
        cost(x, "clear again", 130, 1);
        cost(Check.sets("sets 64 60;set a;clear a;clear a;"), "clear in the text", 0, 2);
    }

    private static void costOfSteps() {
        Check.sentence("Terms", "a step costs 1 for each member that it passes");
        TwinSets x = Check.sets("sets 9 60;set a;set b;add a 0 1 2;");
        x.open(0, true);
        x.open(1, false);
        fill(x, 0, 3, 6);
        int[] due = {1, 1, 1, 3, 0};
        for (int i = 0; i < 5; i++) {
            int before = x.size(6);
            x.step(0);
            cost(x, "step " + i, before, due[i]);
        }
        int before = x.size(6);
        x.step(1);
        cost(x, "step in an empty set", before, 0);
    }

    private static void nothingElseCosts() {
        Check.sentence("Terms", "Nothing else costs anything.");
        TwinSets x = Check.sets("sets 9 60;set a;set b;add a 0 1 2;");
        int before = x.size(6);
        x.mark();
        x.open(0, false);
        x.open(0, true);
        x.close(0);
        x.ahead(1);
        x.saveSnapshot(0);
        x.restoreSnapshot(0);
        Look.all(x);
        Check.find(x, "a");
        Check.parse(x, "sets");
        x.unite(0, 0);
        x.keep(0, 0);
        x.unite(0, 1);
        x.keep(1, 0);
        cost(x, "calls that write no cell", before, 0);
        x.add(0, 5);
        x.undo();
        cost(x, "undo of what did", before, 0);
        x.clear(0);
        x.restoreSnapshot(0);
        cost(x, "restoreSnapshot behind what did", before, 0);
    }

    // ---- the terms: changes

    private static TwinSets still() {
        TwinSets x = Check.sets("sets 4 3;set a;set b;add a 0 1;remove a 0;");
        x.open(0, false);
        x.step(0);
        x.step(0);
        return x;
    }

    private static void alterNothing(TwinSets x, int which) {
        switch (which) {
            case 0: x.add(0, 1); break;
            case 1: x.remove(0, 0); break;
            case 2: x.step(0); break;
            case 3: x.keep(0, 0); break;
            case 4: x.unite(0, 0); break;
            case 5: x.keep(1, 0); break;
            default: x.unite(0, 1); break;
        }
    }

    private static void changesThatAlterNothing() {
        Check.sentence("Terms", "The methods from add to unite are changes if they throw no exception, also if they alter nothing.");
        for (int which = 0; which < 7; which++) {
            TwinSets x = still();
            String before = Look.all(x);
            alterNothing(x, which);
            Check.same("call " + which + " alters nothing", Look.all(x), before);
            Check.same("call " + which + " is a change", x.size(7), 4);
            Check.same("it is undone", x.undo(), 3);
            Check.same("that alters nothing", Look.all(x), before);
            x.undo();
            Check.same("the undo behind it undoes the step", x.cursor(0, 2), 1);
        }
        // Such changes push others out of the latest ten.
        TwinSets x = still();
        for (int i = 0; i < 9; i++) {
            alterNothing(x, i % 7);
        }
        Check.same("changes", x.size(7), 10);
        for (int i = 9; i >= 0; i--) {
            Check.same("undo", x.undo(), i);
        }
        Check.same("the last step is undone", x.cursor(0, 2), 1);
        Check.same("no earlier one", x.cursor(0, 5), 1);
        Check.same("undo", x.undo(), -1);
    }

    private static void whatIsNoChange() {
        Check.sentence("Terms", "The methods from add to unite are changes if they throw no exception");
        TwinSets x = still();
        x.saveSnapshot(0);
        x.saveSnapshot(1);
        Check.find(x, "a");
        Check.parse(x, "sets");
        Look.all(x);
        x.at(0, 3);
        x.differs(0, 0, 3, true);
        x.fullest(0);
        x.common(0, 1);
        x.isWithin(0, 1);
        x.likeness(0, 1);
        x.errorPosition();
        Check.throwsIndex("add(2, 0)", () -> x.add(2, 0));
        Check.throwsArgument("add(0, 4)", () -> x.add(0, 4));
        Check.throwsIndex("removeMet(1)", () -> x.removeMet(1));
        Check.throwsState("removeMet(0)", () -> x.removeMet(0));
        Check.same("changes", x.size(7), 3);
        Check.same("undo", x.undo(), 2);
        Check.same("undo is no change", x.size(7), 2);
        Check.same("undo", x.undo(), 1);
    }

    private static void latestTen() {
        Check.sentence("Terms", "The latest 10 changes can be undone, the latest first.");
        for (int changes = 0; changes <= 33; changes++) {
            TwinSets x = Check.sets("sets 64 60;set a;");
            fill(x, 0, 0, changes);
            int left = Math.min(changes, 10);
            Check.same("changes that can be undone of " + changes, x.size(7), left);
            while (left > 0) {
                left--;
                Check.same("undo", x.undo(), left);
            }
            Check.same("one more", x.undo(), -1);
            Check.same("what is left", x.set(0, 0), Math.max(0, changes - 10));
        }
    }

    private static void latestFirst() {
        Check.sentence("Terms", "The latest 10 changes can be undone, the latest first.");
        TwinSets x = Check.sets("sets 64 60;set a;set b;set c;set d;set e;");
        String[] looks = new String[40];
        int depth = 0;
        int kept = 0;
        // Back and forth, so that the ten wrap around at every place.
        for (int i = 0; i < 60; i++) {
            if (i % 7 == 3 || i % 11 == 5) {
                for (int back = 0; back < 1 + i % 4 && kept > 0; back++) {
                    depth--;
                    kept--;
                    Check.same("undo", x.undo(), kept);
                    Check.same("undo, " + i, Look.all(x), looks[depth]);
                }
            } else {
                looks[depth] = Look.all(x);
                x.add(i % 5, i);
                depth++;
                kept = Math.min(10, kept + 1);
                Check.same("changes", x.size(7), kept);
            }
        }
        while (kept > 0) {
            depth--;
            kept--;
            Check.same("undo", x.undo(), kept);
            Check.same("undo at the end", Look.all(x), looks[depth]);
        }
        Check.same("undo", x.undo(), -1);
    }

    private static void twoSlots() {
        Check.sentence("Terms", "There are two snapshot slots, 0 and 1");
        TwinSets x = Check.sets("sets 9 9;set a;");
        Check.same("saveSnapshot(0)", x.saveSnapshot(0), false);
        x.add(0, 0);
        Check.same("saveSnapshot(1)", x.saveSnapshot(1), false);
        x.add(0, 1);
        Check.throwsIndex("saveSnapshot(2)", () -> x.saveSnapshot(2));
        Check.throwsIndex("saveSnapshot(-1)", () -> x.saveSnapshot(-1));
        Check.same("restoreSnapshot(0)", x.restoreSnapshot(0), 0);
        Check.same("restoreSnapshot(1)", x.restoreSnapshot(1), 1);
        Check.same("restoreSnapshot(0)", x.restoreSnapshot(0), 0);
        Check.throwsIndex("restoreSnapshot(2)", () -> x.restoreSnapshot(2));
        Check.throwsIndex("restoreSnapshot(-1)", () -> x.restoreSnapshot(-1));
    }

    /** Five sets, six cursors, eight marks, events that are forgotten, and cells that no member is in. */
    private static TwinSets full() {
        TwinSets x = Check.sets("sets 6 3;set a;set b;set c;set d;set e;add a 0 1 2 3 4 5;add b 5 4;mark;clear b;"
                + "add e 5 4 3 2;remove e 4;mark;mark;mark;mark;mark;mark;");
        for (int cursor = 0; cursor < 6; cursor++) {
            x.open(cursor % 2 * 4, cursor < 3);
            for (int i = 0; i < cursor; i++) {
                x.step(cursor);
            }
        }
        return x;
    }

    private static void disturb(TwinSets x) {
        x.add(1, 3);
        x.unite(3, 0);
        x.keep(0, 4);
        x.removeMet(1);
        x.step(2);
        x.close(4);
        x.open(3, true);
        x.mark();
        x.clear(4);
        x.unite(2, 3);
    }

    private static void snapshotHoldsEverything() {
        Check.sentence("Terms", "a snapshot holds everything that changes can change (the clock, the cost and cells that no member is in, too)");
        TwinSets x = full();
        String before = Look.all(x);
        x.saveSnapshot(1);
        disturb(x);
        String after = Look.all(x);
        Check.same("it was disturbed", after.equals(before), false);
        x.saveSnapshot(0);
        Check.same("restoreSnapshot(1)", x.restoreSnapshot(1), 14);
        Check.same("behind restoreSnapshot(1)", Look.all(x), before);
        disturb(x);
        Check.same("disturbed again", Look.all(x), after);
        x.restoreSnapshot(1);
        x.restoreSnapshot(0);
        Check.same("behind restoreSnapshot(0)", Look.all(x), after);
        x.restoreSnapshot(1);
        Check.same("behind restoreSnapshot(1) again", Look.all(x), before);
        // What is in the same place later: a mark, a stamp, a cursor.
        TwinSets y = Check.sets("sets 9 9;set a;set b;add a 1 2;");
        y.mark();
        y.open(0, true);
        y.step(0);
        y.saveSnapshot(0);
        String then = Look.all(y);
        y.undo();
        y.undo();
        y.undo();
        y.remove(0, 1);
        y.add(0, 1);
        y.mark();
        y.open(1, false);
        y.restoreSnapshot(0);
        Check.same("behind other changes in the place of the undone", Look.all(y), then);
    }

    private static void undoBringsBackEverything() {
        Check.sentence("Promise 32", "Undoes the latest change that has not been undone.");
        TwinSets x = full();
        String before = Look.all(x);
        for (int round = 0; round < 2; round++) {
            disturb(x);
            for (int i = 9; i >= 0; i--) {
                Check.same("undo", x.undo(), i);
            }
            Check.same("behind ten undos", Look.all(x), before);
        }
        Check.same("one more", x.undo(), -1);
        Check.same("behind one that undoes nothing", Look.all(x), before);
    }

    private static void parseBeginsAnew() {
        Check.sentence("Terms", "A successful parse begins anew, clears the undo history and empties both slots.");
        TwinSets x = full();
        disturb(x);
        x.saveSnapshot(0);
        x.saveSnapshot(1);
        Check.same("parse with an error", Check.parse(x, "sets 6 3;set a;!"), 1);
        Check.same("the history stays", x.size(7), 10);
        Check.same("slot 0 stays", x.saveSnapshot(0), true);
        Check.same("slot 1 stays", x.saveSnapshot(1), true);
        Check.same("parse", Check.parse(x, "sets 6 3;set a;"), 0);
        Check.same("changes", x.size(7), 0);
        Check.same("undo", x.undo(), -1);
        Check.throwsState("slot 0", () -> x.restoreSnapshot(0));
        Check.throwsState("slot 1", () -> x.restoreSnapshot(1));
        Check.same("as new", Look.all(x), Look.all(Check.sets("sets 6 3;set a;")));
        x.add(0, 1);
        Check.same("undo of a change behind it", x.undo(), 0);
        Check.same("no earlier one", x.undo(), -1);
        Check.same("saveSnapshot(0)", x.saveSnapshot(0), false);
        Check.throwsState("slot 1 is empty still", () -> x.restoreSnapshot(1));
    }

    // ---- promises 19 to 21

    private static void commonNumbers() {
        Check.sentence("Promise 19", "Returns how many numbers are members of both sets.");
        TwinSets x = Check.sets("sets 64 60;set a;set b;");
        Check.same("of two empty ones", x.common(0, 1), 0);
        fill(x, 0, 0, 64);
        Check.same("of a full and an empty one", x.common(0, 1), 0);
        Check.same("of an empty and a full one", x.common(1, 0), 0);
        for (int count = 1; count <= 64; count++) {
            x.add(1, 64 - count);
            Check.same("common(0, 1)", x.common(0, 1), count);
            Check.same("common(1, 0)", x.common(1, 0), count);
        }
        Check.same("of one with itself", x.common(0, 0), 64);
        x.clear(0);
        Check.same("cells that no member is in", x.common(0, 1), 0);
    }

    private static void withinAnother() {
        Check.sentence("Promise 20", "Returns whether all members of a set are members of another one.");
        TwinSets x = Check.sets("sets 64 60;set a;set b;");
        Check.same("an empty one within an empty one", x.isWithin(0, 1), true);
        Check.same("an empty one within itself", x.isWithin(0, 0), true);
        x.add(0, 63);
        Check.same("63 within none", x.isWithin(0, 1), false);
        Check.same("none within 63", x.isWithin(1, 0), true);
        fill(x, 1, 0, 63);
        Check.same("63 within all others", x.isWithin(0, 1), false);
        Check.same("all others within 63", x.isWithin(1, 0), false);
        x.add(1, 63);
        Check.same("63 within all", x.isWithin(0, 1), true);
        Check.same("all within 63", x.isWithin(1, 0), false);
        fill(x, 0, 0, 63);
        Check.same("all within all", x.isWithin(1, 0), true);
        x.remove(0, 0);
        Check.same("all within all but 0", x.isWithin(1, 0), false);
    }

    private static void likenessOfEmpty() {
        Check.sentence("Promise 21", "1.0 if both are empty");
        TwinSets x = Check.sets("sets 64 60;set a;set b;");
        Check.same("both are empty", x.likeness(0, 1), 1.0);
        Check.same("one with itself", x.likeness(0, 0), 1.0);
        x.add(0, 0);
        Check.same("the second is empty", x.likeness(0, 1), 0.0);
        Check.same("the first is empty", x.likeness(1, 0), 0.0);
        x.clear(0);
        Check.same("both are empty again", x.likeness(0, 1), 1.0);
    }

    private static void likenessDivided() {
        Check.sentence("Promise 21", "the number of members of both, converted to double, divided by the number of members of at least one");
        TwinSets x = Check.sets("sets 64 60;set a;set b;set c;");
        fill(x, 0, 0, 64);
        for (int count = 1; count <= 64; count++) {
            x.add(1, 64 - count);
            Check.same(count + " of 64", x.likeness(0, 1), (double) count / 64);
            Check.same(count + " of 64, the other way", x.likeness(1, 0), (double) count / 64);
        }
        x.clear(0);
        fill(x, 0, 0, 49);
        x.add(2, 7);
        Check.same("1 of 49", x.likeness(0, 2), 1.0 / 49);
        x.clear(0);
        fill(x, 0, 0, 3);
        x.add(2, 2);
        Check.same("1 of 4", x.likeness(0, 2), 0.25);
        x.add(2, 1);
        Check.same("2 of 4", x.likeness(0, 2), 0.5);
        x.remove(2, 7);
        Check.same("2 of 3", x.likeness(0, 2), 2.0 / 3);
    }

    // ---- promises 22 to 25

    private static void addPlace() {
        Check.sentence("Promise 22", "Returns its place then.");
        TwinSets x = Check.sets("sets 3 9;set a;");
        Check.same("the greatest number", x.add(0, 2), 0);
        Check.same("the least number", x.add(0, 0), 1);
        Check.same("a member at the place 0", x.add(0, 2), 0);
        Check.same("a member at the place 1", x.add(0, 0), 1);
        Check.same("the last that has room", x.add(0, 1), 2);
        Check.same("a member of a full set", x.add(0, 1), 2);
        Check.throwsArgument("add(0, 3)", () -> x.add(0, 3));
        Check.throwsArgument("add(0, -1)", () -> x.add(0, -1));
        x.remove(0, 2);
        Check.same("a member that was moved", x.add(0, 1), 0);
        Check.same("one that was removed", x.add(0, 2), 2);
        x.clear(0);
        Check.same("behind clear", x.add(0, 1), 0);
    }

    private static void removeMember() {
        Check.sentence("Promise 23", "Returns whether it was a member.");
        TwinSets x = Check.sets("sets 3 9;set a;");
        for (int number = 0; number < 3; number++) {
            Check.same("of an empty set", x.remove(0, number), false);
        }
        fill(x, 0, 0, 3);
        Check.throwsArgument("remove(0, 3)", () -> x.remove(0, 3));
        Check.throwsArgument("remove(0, -1)", () -> x.remove(0, -1));
        Check.same("the greatest number", x.remove(0, 2), true);
        Check.same("again", x.remove(0, 2), false);
        Check.same("the least number", x.remove(0, 0), true);
        Check.same("again", x.remove(0, 0), false);
        Check.same("the only one", x.remove(0, 1), true);
        Check.same("again", x.remove(0, 1), false);
        fill(x, 0, 0, 3);
        x.clear(0);
        Check.same("behind clear", x.remove(0, 0), false);
    }

    private static void removeNoMember() {
        Check.sentence("Promise 23", "Removes a number from a set, if it is a member.");
        TwinSets x = Check.sets("sets 3 2;set a;add a 2 0;");
        x.open(0, false);
        x.step(0);
        String before = Look.all(x);
        Check.same("remove of no member", x.remove(0, 1), false);
        Check.same("nothing is altered", Look.all(x), before);
        Check.same("remove of a member", x.remove(0, 2), true);
        Check.members("remove of a member", x, 0, "0");
    }

    private static void clearSize() {
        Check.sentence("Promise 24", "Returns its size before.");
        TwinSets x = Check.sets("sets 64 9;set a;");
        for (int size = 0; size <= 64; size += size < 2 ? 1 : 31) {
            fill(x, 0, 0, size);
            Check.same("clear(0)", x.clear(0), size);
            Check.same("clear(0) again", x.clear(0), 0);
        }
    }

    private static void markNumber() {
        Check.sentence("Promise 25", "Makes a mark, with the clock as it is.");
        Check.sentence("Promise 25", "Returns its number.");
        TwinSets x = Check.sets("sets 64 9;set a;");
        for (int number = 0; number < 8; number++) {
            Check.same("mark()", x.mark(), number);
            Check.same("its clock", x.marked(number), number / 2);
            if (number % 2 == 1) {
                x.add(0, number);
            }
        }
        Check.same("the first stays", x.marked(0), 0);
        Check.same("clock", x.size(3), 4);
        TwinSets y = Check.sets("sets 64 9;mark;mark;");
        Check.same("mark() behind those of the text", y.mark(), 2);
    }

    private static void markRefused() {
        Check.sentence("Promise 25", "Throws `IllegalStateException` if there are 8 marks");
        TwinSets x = Check.sets("sets 64 9;set a;mark;mark;mark;mark;mark;mark;mark;");
        Check.same("the eighth", x.mark(), 7);
        Check.throwsState("a ninth", () -> x.mark());
        x.undo();
        x.add(0, 5);
        Check.same("the eighth again", x.mark(), 7);
        Check.same("its clock", x.marked(7), 1);
        Check.throwsState("a ninth again", () -> x.mark());
    }

    // ---- promises 30 and 31

    private static void keepFromTheLastPlace() {
        Check.sentence("Promise 30", "from the last place down to the first one");
        TwinSets x = Check.sets("sets 9 9;set a;set b;add a 0 1 2 3;add b 1;");
        x.open(0, false);
        for (int i = 0; i < 4; i++) {
            x.step(0);
        }
        int before = x.size(6);
        Check.same("keep(0, 1)", x.keep(0, 1), 3);
        Check.members("keep(0, 1)", x, 0, "1");
        int[] gone = {3, 2, 0};
        for (int i = 0; i < 3; i++) {
            Check.same("what went, " + i, x.event(0, 4 + i, 1), gone[i]);
        }
        cost(x, "only 1 was moved", before, 2);
        Check.same("position", x.cursor(0, 1), 1);
        Check.same("size", x.set(0, 0), 1);
    }

    private static void keepLooksOnce() {
        Check.sentence("Promise 30", "(each place is looked at once; a member that is moved into a place that was looked at already "
                + "is not looked at again)");
        TwinSets x = Check.sets("sets 9 9;set a;set b;add a 0 1 2 3;add b 2 3;");
        int before = x.size(6);
        Check.same("keep(0, 1)", x.keep(0, 1), 2);
        // 1 goes and 3 comes to its place, 0 goes and 2 comes to its place.
        Check.members("keep(0, 1)", x, 0, "2 3");
        cost(x, "two were moved", before, 4);
        Check.same("the first that went", x.event(0, 4, 1), 1);
        Check.same("the second", x.event(0, 5, 1), 0);
        Check.same("no more", x.set(0, 3), 6);
    }

    private static void keepAllOrNone() {
        Check.sentence("Promise 30", "Returns the number of members that are removed.");
        TwinSets x = Check.sets("sets 64 9;set a;set b;set c;");
        Check.same("an empty set, by an empty one", x.keep(0, 1), 0);
        Check.same("an empty set, by itself", x.keep(0, 0), 0);
        fill(x, 0, 0, 64);
        Check.same("an empty set, by a full one", x.keep(1, 0), 0);
        Check.same("a full set, by itself", x.keep(0, 0), 0);
        fill(x, 2, 0, 64);
        Check.same("a full set, by a full one", x.keep(0, 2), 0);
        Check.same("size", x.set(0, 0), 64);
        Check.same("a full set, by an empty one", x.keep(0, 1), 64);
        Check.same("size", x.set(0, 0), 0);
        Check.same("generation", x.set(0, 1), 0);
        Check.same("the latest event is a removal", x.event(0, 8, 2), 1);
        Check.same("of the first member", x.event(0, 8, 1), 0);
        x.add(1, 63);
        Check.same("a full set, by one with a member", x.keep(2, 1), 63);
        Check.members("what is left", x, 2, "63");
        Check.members("the other set", x, 1, "63");
    }

    private static void uniteInOrder() {
        Check.sentence("Promise 31", "Adds the members of another set to a set, in the order of their places.");
        TwinSets x = Check.sets("sets 9 9;set a;set b;add a 4;add b 8 4 0 7;remove b 8;");
        Check.same("unite(0, 1)", x.unite(0, 1), 2);
        Check.members("unite(0, 1)", x, 0, "4 7 0");
        Check.same("stamp of 7", x.stampOf(0, 7), 7);
        Check.same("stamp of 0", x.stampOf(0, 0), 8);
        Check.members("the other set", x, 1, "7 4 0");
    }

    private static void uniteTheSame() {
        Check.sentence("Promise 31", "Nothing happens if both are the same.");
        for (int size : new int[] {0, 1, 64}) {
            TwinSets x = Check.sets("sets 64 3;set a;set b;");
            fill(x, 1, 0, size);
            x.open(1, false);
            String before = Look.all(x);
            Check.same("unite(1, 1)", x.unite(1, 1), 0);
            Check.same("nothing happens", Look.all(x), before);
        }
    }

    private static void uniteAllOrNone() {
        Check.sentence("Promise 31", "Returns the number of members that come.");
        TwinSets x = Check.sets("sets 64 9;set a;set b;");
        Check.same("of an empty one to an empty one", x.unite(0, 1), 0);
        fill(x, 1, 0, 64);
        Check.same("of an empty one to a full one", x.unite(1, 0), 0);
        Check.same("of a full one to an empty one", x.unite(0, 1), 64);
        Check.same("of a full one to a full one", x.unite(0, 1), 0);
        Check.same("the first place", x.place(0, 0), 0);
        Check.same("the last place", x.place(0, 63), 63);
        Check.same("first stamp", x.set(0, 2), 119);
        x.remove(0, 63);
        Check.same("of one member", x.unite(0, 1), 1);
        x.clear(1);
        Check.same("of cells that no member is in", x.unite(0, 1), 0);
    }

    // ---- promises 32 to 34

    private static void undoNone() {
        Check.sentence("Promise 32", "Returns the number of changes that can still be undone; NONE if there was none to undo.");
        TwinSets x = Check.sets("sets 9 9;set a;");
        Check.same("none", x.undo(), -1);
        x.add(0, 0);
        Check.same("one", x.undo(), 0);
        Check.same("none again", x.undo(), -1);
        Check.same("none once more", x.undo(), -1);
        x.add(0, 0);
        x.add(0, 1);
        Check.same("two", x.undo(), 1);
        Check.same("one", x.undo(), 0);
        Check.same("none", x.undo(), -1);
        Check.same("size(7)", x.size(7), 0);
        x.saveSnapshot(0);
        Check.same("saveSnapshot can't be undone", x.undo(), -1);
        Check.same("the slot stays", x.saveSnapshot(0), true);
    }

    private static void saveAgain() {
        Check.sentence("Promise 33", "Saves a snapshot in a slot, in place of an earlier one.");
        for (int slot = 0; slot < 2; slot++) {
            TwinSets x = Check.sets("sets 9 9;set a;");
            Check.same("there was none", x.saveSnapshot(slot), false);
            x.add(0, 0);
            Check.same("there was one", x.saveSnapshot(slot), true);
            Check.same("none in the other slot", x.saveSnapshot(1 - slot), false);
            x.add(0, 1);
            Check.same("the later one", x.restoreSnapshot(slot), 1);
            Check.same("there still is one", x.saveSnapshot(slot), true);
            x.add(0, 2);
            x.undo();
            Check.same("undo empties no slot", x.saveSnapshot(slot), true);
        }
    }

    private static void earlierSnapshot() {
        Check.sentence("Promise 33", "Returns whether there was an earlier one.");
        TwinSets x = new TwinSets();
        Check.same("slot 1 of a new object", x.saveSnapshot(1), false);
        Check.same("slot 1 again", x.saveSnapshot(1), true);
        Check.same("slot 0", x.saveSnapshot(0), false);
        Check.same("parse with an error", Check.parse(x, "sets"), 1);
        Check.same("behind an error, slot 0", x.saveSnapshot(0), true);
        Check.same("behind an error, slot 1", x.saveSnapshot(1), true);
        Check.same("parse", Check.parse(x, "sets 1 1;"), 0);
        Check.same("behind a parse, slot 1", x.saveSnapshot(1), false);
        Check.same("behind a parse, slot 0", x.saveSnapshot(0), false);
    }

    private static void restoreClock() {
        Check.sentence("Promise 34", "Returns the clock then.");
        TwinSets x = Check.sets("sets 64 9;set a;");
        x.saveSnapshot(0);
        fill(x, 0, 0, 64);
        x.saveSnapshot(1);
        x.clear(0);
        Check.same("the clock that was 64", x.restoreSnapshot(1), 64);
        Check.same("size(3)", x.size(3), 64);
        Check.same("the clock that was 0", x.restoreSnapshot(0), 0);
        Check.same("size(3)", x.size(3), 0);
    }

    private static void restoreStays() {
        Check.sentence("Promise 34", "Restores the snapshot of a slot, which stays stored. The undo history is cleared.");
        TwinSets x = Check.sets("sets 9 9;set a;");
        Check.same("saveSnapshot(1)", x.saveSnapshot(1), false);
        for (int i = 0; i < 3; i++) {
            fill(x, 0, 0, 9);
            x.clear(0);
            x.add(0, i);
            Check.same("changes", x.size(7), 10);
            Check.same("restoreSnapshot(1)", x.restoreSnapshot(1), 0);
            Check.same("changes then", x.size(7), 0);
            Check.same("undo", x.undo(), -1);
            Check.same("as it was", Look.all(x), Look.all(Check.sets("sets 9 9;set a;")));
        }
        x.add(0, 8);
        Check.same("undo of a later change", x.undo(), 0);
        Check.same("no earlier one", x.undo(), -1);
    }

    private static void restoreEmptySlot() {
        Check.sentence("Promise 34", "Throws `IllegalStateException` if the slot is empty");
        TwinSets x = Check.sets("sets 9 9;set a;");
        x.add(0, 0);
        Check.throwsState("slot 0", () -> x.restoreSnapshot(0));
        Check.throwsState("slot 1", () -> x.restoreSnapshot(1));
        x.saveSnapshot(0);
        Check.throwsState("slot 1, 0 is full", () -> x.restoreSnapshot(1));
        Check.same("the history stays", x.size(7), 1);
        Check.parse(x, "sets 9 9;set a;");
        x.saveSnapshot(1);
        Check.throwsState("slot 0, 1 is full", () -> x.restoreSnapshot(0));
        for (int slot : new int[] {-1, 2, Integer.MAX_VALUE, Integer.MIN_VALUE}) {
            Check.throwsIndex("saveSnapshot(" + slot + ")", () -> x.saveSnapshot(slot));
            Check.throwsIndex("restoreSnapshot(" + slot + ")", () -> x.restoreSnapshot(slot));
        }
    }
}
