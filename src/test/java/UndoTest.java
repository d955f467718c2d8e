/** Promises 32 to 34: undo, saveSnapshot, restoreSnapshot. */
public final class UndoTest {
    public static void main(String[] args) {
        everyChangeCanBeUndone();
        historyOfTen();
        whatIsNoChange();
        whatLaterChangesWroteOver();
        snapshots();
        snapshotsHoldEverything();
        slotsThatDoNotExist();
        Check.end();
    }

    private static TwinSets busy() {
        TwinSets x = Check.sets("sets 9 4;set a;set b;add a 0 1 2 3 4;add b 7 3 8;mark;clear b;add b 1 3 5;");
        x.open(0, false);
        x.open(0, true);
        x.open(1, false);
        x.step(0);
        x.step(0);
        x.step(1);
        x.step(2);
        return x;
    }

    private static void change(TwinSets x, int which) {
        switch (which) {
            case 0: x.add(0, 7); break;
            case 1: x.add(0, 1); break;
            case 2: x.remove(0, 0); break;
            case 3: x.remove(0, 8); break;
            case 4: x.clear(0); break;
            case 5: x.mark(); break;
            case 6: x.open(1, true); break;
            case 7: x.close(0); break;
            case 8: x.step(0); break;
            case 9: x.removeMet(0); break;
            case 10: x.keep(0, 1); break;
            case 11: x.unite(0, 1); break;
            case 12: x.unite(0, 0); break;
            default: x.keep(1, 1); break;
        }
    }

    private static void everyChangeCanBeUndone() {
        for (int which = 0; which < 14; which++) {
            TwinSets x = busy();
            String before = Look.all(x);
            int changes = x.size(7);
            change(x, which);
            Check.same("changes behind change " + which, x.size(7), changes + 1);
            Check.same("undo of change " + which, x.undo(), changes);
            Check.same("changes behind undo " + which, x.size(7), changes);
            Check.same("undo of change " + which, Look.all(x), before);
            change(x, which);
            String after = Look.all(x);
            x.undo();
            change(x, which);
            Check.same("change " + which + " anew", Look.all(x), after);
        }
    }

    private static void historyOfTen() {
        TwinSets x = Check.sets("sets 64 60;set a;");
        Check.same("undo of nothing", x.undo(), -1);
        for (int i = 0; i < 25; i++) {
            x.add(0, i);
        }
        Check.same("ten can be undone", x.size(7), 10);
        for (int i = 9; i >= 0; i--) {
            Check.same("undo, " + i + " left", x.undo(), i);
            Check.same("size then", x.set(0, 0), 15 + i);
        }
        Check.same("undo of an eleventh", x.undo(), -1);
        Check.same("size then", x.set(0, 0), 15);
        x.add(0, 40);
        x.add(0, 41);
        Check.same("undo of a later one", x.undo(), 1);
        x.add(0, 42);
        Check.same("undo", x.undo(), 1);
        Check.same("undo", x.undo(), 0);
        Check.same("undo of none", x.undo(), -1);
        Check.same("size then", x.set(0, 0), 15);
    }

    private static void whatIsNoChange() {
        TwinSets x = busy();
        int changes = x.size(7);
        Look.all(x);
        x.at(0, 8);
        x.differs(0, 8, 9, true);
        x.fullest(0);
        x.common(0, 1);
        x.isWithin(0, 1);
        x.likeness(0, 1);
        x.place(0, 1);
        x.saveSnapshot(0);
        Check.find(x, "a");
        Check.parse(x, "sets");
        x.errorPosition();
        Check.same("changes", x.size(7), changes);
        Check.same("undo", x.undo(), changes - 1);
    }

    private static void whatLaterChangesWroteOver() {
        TwinSets x = Check.sets("sets 9 4;set a;set b;add a 1 2;add b 5;");
        x.mark();
        x.open(0, true);
        x.step(0);
        String before = Look.all(x);
        x.saveSnapshot(1);
        x.undo();
        x.undo();
        x.undo();
        x.remove(0, 1);
        x.add(0, 1);
        x.mark();
        x.open(1, false);
        x.restoreSnapshot(1);
        Check.same("restoreSnapshot behind undo and other changes", Look.all(x), before);
        x.close(0);
        x.remove(0, 1);
        x.add(0, 1);
        x.open(1, false);
        x.undo();
        x.undo();
        x.undo();
        x.undo();
        Check.same("undo of what stands in the same place", Look.all(x), before);
    }

    private static void snapshots() {
        TwinSets x = Check.sets("sets 9 4;set a;add a 1;");
        Check.throwsState("restoreSnapshot(0), empty", () -> x.restoreSnapshot(0));
        Check.throwsState("restoreSnapshot(1), empty", () -> x.restoreSnapshot(1));
        Check.same("saveSnapshot(1)", x.saveSnapshot(1), false);
        Check.throwsState("the other slot is empty", () -> x.restoreSnapshot(0));
        x.add(0, 2);
        Check.same("saveSnapshot(0)", x.saveSnapshot(0), false);
        x.add(0, 3);
        Check.same("restoreSnapshot(1)", x.restoreSnapshot(1), 1);
        Check.members("restoreSnapshot(1)", x, 0, "1");
        Check.same("the history is cleared", x.size(7), 0);
        Check.same("undo", x.undo(), -1);
        Check.same("restoreSnapshot(0)", x.restoreSnapshot(0), 2);
        Check.members("restoreSnapshot(0)", x, 0, "1 2");
        x.add(0, 5);
        Check.same("it stays stored", x.restoreSnapshot(0), 2);
        Check.members("it stays as it was", x, 0, "1 2");
        x.add(0, 6);
        x.clear(0);
        Check.same("saveSnapshot(0) again", x.saveSnapshot(0), true);
        x.undo();
        Check.members("undo behind saveSnapshot", x, 0, "1 2 6");
        Check.same("a slot stays behind undo", x.restoreSnapshot(0), 4);
        Check.members("the later snapshot", x, 0, "");
        Check.throwsState("restoreSnapshot(0) of a new object", () -> new TwinSets().restoreSnapshot(0));
        Check.same("restoreSnapshot(1)", x.restoreSnapshot(1), 1);
        x.add(0, 4);
        int changes = x.size(7);
        Check.parse(x, "sets 9 9;");
        Check.same("a parse empties slots", x.saveSnapshot(1), false);
        Check.throwsState("and the other one", () -> x.restoreSnapshot(0));
        Check.same("there was a change", changes, 1);
    }

    private static void snapshotsHoldEverything() {
        for (int which = 0; which < 14; which++) {
            TwinSets x = busy();
            x.saveSnapshot(0);
            String before = Look.all(x);
            change(x, which);
            x.saveSnapshot(1);
            String after = Look.all(x);
            Check.same("restoreSnapshot(0)", x.restoreSnapshot(0), 12);
            Check.same("restoreSnapshot(0) behind change " + which, Look.all(x), before);
            change(x, which);
            Check.same("change " + which + " behind restoreSnapshot", Look.all(x), after);
            x.restoreSnapshot(1);
            Check.same("restoreSnapshot(1) behind change " + which, Look.all(x), after);
        }
    }

    private static void slotsThatDoNotExist() {
        TwinSets x = new TwinSets();
        x.mark();
        for (int bad : new int[] {-1, 2, Integer.MAX_VALUE, Integer.MIN_VALUE}) {
            Check.throwsIndex("saveSnapshot(" + bad + ")", () -> x.saveSnapshot(bad));
            Check.throwsIndex("restoreSnapshot(" + bad + ")", () -> x.restoreSnapshot(bad));
        }
        Check.throwsState("restoreSnapshot(0)", () -> x.restoreSnapshot(0));
        Check.same("they change nothing", x.size(7), 1);
    }
}
