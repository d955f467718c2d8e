/** Promises 17, 18 and 26 to 29: cursor, ahead, open, close, step, removeMet. */
public final class CursorsTest {
    public static void main(String[] args) {
        openAndCursor();
        openLimits();
        closeCursor();
        stepping();
        strictStepping();
        ahead();
        removalsMoveTheHole();
        equalPositions();
        metOnce();
        clearEnds();
        removeMet();
        Check.end();
    }

    private static void cursor(String when, TwinSets x, int cursor, int... due) {
        for (int what = 0; what < due.length; what++) {
            Check.same(when + ": cursor(" + cursor + ", " + what + ")", x.cursor(cursor, what), due[what]);
        }
    }

    private static void openAndCursor() {
        TwinSets x = Check.sets("sets 9 9;set a;set b;add a 1 2;add b 3;");
        Check.same("open(1, true)", x.open(1, true), 0);
        x.add(0, 5);
        Check.same("open(0, false)", x.open(0, false), 1);
        cursor("new", x, 0, 1, 0, 1, 1, 3, 0, -1);
        cursor("new", x, 1, 0, 0, 1, 0, 4, 0, -1);
        x.step(1);
        x.step(1);
        cursor("stepped twice", x, 1, 0, 2, 1, 0, 4, 2, 2);
        x.step(1);
        x.step(1);
        cursor("ended", x, 1, 0, 3, 0, 0, 4, 3, 5);
        x.remove(0, 5);
        cursor("ended, and its member removed", x, 1, 0, 3, 0, 0, 4, 3, 5);
        Check.throwsArgument("cursor(0, 7)", () -> x.cursor(0, 7));
        Check.throwsArgument("cursor(0, -1)", () -> x.cursor(0, -1));
        Check.throwsIndex("cursor(2, 0)", () -> x.cursor(2, 0));
        Check.throwsIndex("cursor(2, 7)", () -> x.cursor(2, 7));
        Check.throwsIndex("cursor(-1, 0)", () -> x.cursor(-1, 0));
        Check.throwsIndex("cursor(6, 0)", () -> x.cursor(6, 0));
        Check.throwsIndex("cursor(greatest, 9)", () -> x.cursor(Integer.MAX_VALUE, 9));
    }

    private static void openLimits() {
        TwinSets x = Check.sets("sets 9 9;set a;add a 1;");
        for (int i = 0; i < 6; i++) {
            Check.same("open, time " + i, x.open(0, i % 2 == 0), i);
        }
        x.add(0, 2);
        int changes = x.size(7);
        Check.throwsState("open with 6 cursors", () -> x.open(0, false));
        Check.throwsIndex("open(1) with 6 cursors", () -> x.open(1, false));
        Check.throwsIndex("open(-1) with 6 cursors", () -> x.open(-1, true));
        Check.same("size(7) when open throws", x.size(7), changes);
        Check.same("size(5)", x.size(5), 6);
        x.step(3);
        x.step(3);
        x.step(3);
        Check.throwsState("an ended cursor is still there", () -> x.open(0, false));
        x.close(4);
        x.close(1);
        x.step(2);
        Check.same("the lowest number not in use", x.open(0, true), 1);
        cursor("its number anew", x, 1, 0, 0, 1, 1, 2, 0, -1);
        Check.same("the next", x.open(0, true), 4);
    }

    private static void closeCursor() {
        TwinSets x = Check.sets("sets 9 9;set a;add a 1 2 3;");
        x.open(0, false);
        x.open(0, false);
        x.step(0);
        x.step(0);
        Check.same("close(1), nothing met", x.close(1), 0);
        Check.same("close(0), open", x.close(0), 2);
        Check.same("size(5)", x.size(5), 0);
        Check.throwsIndex("close again", () -> x.close(0));
        Check.throwsIndex("cursor of a closed one", () -> x.cursor(0, 0));
        Check.throwsIndex("step of a closed one", () -> x.step(0));
        Check.throwsIndex("ahead of a closed one", () -> x.ahead(0));
        Check.throwsIndex("removeMet of a closed one", () -> x.removeMet(0));
        Check.throwsIndex("close(-1)", () -> x.close(-1));
        Check.throwsIndex("close(6)", () -> x.close(6));
        int cost = x.size(6);
        x.remove(0, 1);
        Check.members("a closed cursor moves no hole", x, 0, "3 2");
        Check.same("cost", x.size(6), cost + 2);
        x.open(0, false);
        x.step(0);
        x.step(0);
        x.step(0);
        Check.same("close(0), ended", x.close(0), 2);
    }

    private static void stepping() {
        TwinSets x = Check.sets("sets 9 9;set a;set b;add a 4 6;");
        x.open(0, false);
        x.open(1, false);
        Check.same("step", x.step(0), 4);
        Check.same("cost of a step", x.size(6), 5);
        Check.same("step", x.step(0), 6);
        Check.same("still open at the end", x.cursor(0, 2), 1);
        x.add(0, 0);
        Check.same("step to what came", x.step(0), 0);
        Check.same("step ends", x.step(0), -1);
        Check.same("ended", x.cursor(0, 2), 0);
        x.add(0, 8);
        int cost = x.size(6);
        int changes = x.size(7);
        Check.same("step of an ended one", x.step(0), -1);
        Check.same("cost of a step of an ended one", x.size(6), cost);
        Check.same("a step that alters nothing is a change", x.size(7), changes + 1);
        Check.same("step in an empty set", x.step(1), -1);
        Check.same("cost of a step in an empty set", x.size(6), cost);
        cursor("ended at once", x, 1, 1, 0, 0, 0, 2, 0, -1);
        Check.throwsIndex("step(2)", () -> x.step(2));
        Check.throwsIndex("step(-1)", () -> x.step(-1));
        Check.throwsIndex("step(6)", () -> x.step(6));
    }

    private static void strictStepping() {
        TwinSets x = Check.sets("sets 9 9;set a;add a 1 2 3;");
        x.open(0, true);
        x.step(0);
        x.remove(0, 2);
        x.add(0, 2);
        x.add(0, 5);
        Check.members("removed and added again", x, 0, "1 3 2 5");
        int cost = x.size(6);
        Check.same("step", x.step(0), 3);
        Check.same("what came later is passed", x.step(0), -1);
        Check.same("the passed ones cost, too", x.size(6), cost + 3);
        cursor("ended", x, 0, 0, 4, 0, 1, 3, 2, 3);
        x.open(0, true);
        x.remove(0, 1);
        x.add(0, 1);
        x.remove(0, 3);
        x.add(0, 7);
        Check.members("1 and 7 came later", x, 0, "5 1 2 7");
        Check.same("a member that came at the very clock is met", x.step(1), 5);
        cost = x.size(6);
        Check.same("one is passed", x.step(1), 2);
        Check.same("both cost", x.size(6), cost + 2);
        Check.same("position behind both", x.cursor(1, 1), 3);
        Check.same("met", x.cursor(1, 5), 2);
    }

    private static void ahead() {
        TwinSets x = Check.sets("sets 9 9;set a;add a 1 2 3;");
        x.open(0, false);
        x.open(0, true);
        x.add(0, 4);
        Check.same("ahead(0)", x.ahead(0), 4);
        Check.same("ahead(1)", x.ahead(1), 3);
        x.step(0);
        x.step(1);
        x.step(1);
        Check.same("ahead(0) behind a step", x.ahead(0), 3);
        Check.same("ahead(1) behind two steps", x.ahead(1), 1);
        int cost = x.size(6);
        int changes = x.size(7);
        x.ahead(0);
        Check.same("ahead costs nothing", x.size(6), cost);
        Check.same("ahead is no change", x.size(7), changes);
        x.clear(0);
        x.add(0, 5);
        Check.same("ahead of an ended one", x.ahead(0), 0);
        Check.throwsIndex("ahead(2)", () -> x.ahead(2));
        Check.throwsIndex("ahead(-1)", () -> x.ahead(-1));
        Check.throwsIndex("ahead(6)", () -> x.ahead(6));
    }

    private static void stepTo(TwinSets x, int cursor, int position) {
        for (int i = 0; i < position; i++) {
            x.step(cursor);
        }
    }

    private static void removalsMoveTheHole() {
        TwinSets x = Check.sets("sets 9 9;set a;set b;add a 0 1 2 3 4 5 6 7;add b 1 2 3;");
        // The cursor with the higher number has the lesser position; one of another set does not count.
        x.open(0, false);
        x.open(0, true);
        x.open(1, false);
        stepTo(x, 0, 6);
        stepTo(x, 1, 3);
        stepTo(x, 2, 2);
        int cost = x.size(6);
        Check.same("remove(0, 1)", x.remove(0, 1), true);
        Check.members("1 out: 2 to 1, 5 to 2, 7 to 5", x, 0, "0 2 5 3 4 7 6");
        Check.same("three moves", x.size(6), cost + 6);
        Check.same("position of 0", x.cursor(0, 1), 5);
        Check.same("position of 1", x.cursor(1, 1), 2);
        Check.same("position of 2", x.cursor(2, 1), 2);
        Check.same("the old cell of 5", x.cell(0, 5, false), 7);
        Check.same("the old cell of 7", x.cell(0, 7, false), 7);
        Check.same("the place of 1", x.cell(0, 1, true), 1);
        cost = x.size(6);
        Check.same("remove(0, 7)", x.remove(0, 7), true);
        Check.members("a hole at the position moves no cursor", x, 0, "0 2 5 3 4 6");
        Check.same("position of 0", x.cursor(0, 1), 5);
        Check.same("one move", x.size(6), cost + 2);
        cost = x.size(6);
        x.remove(0, 6);
        Check.members("the last one", x, 0, "0 2 5 3 4");
        Check.same("no move", x.size(6), cost);
        x.remove(0, 4);
        Check.same("position falls at the end, too", x.cursor(0, 1), 4);
        Check.same("still no move", x.size(6), cost);
        Check.same("the step ends", x.step(0), -1);
        x.remove(0, 0);
        Check.members("0 out: 2 to 0, 3 to 1", x, 0, "2 3 5");
        Check.same("an ended one keeps its position", x.cursor(0, 1), 4);
    }

    private static void equalPositions() {
        TwinSets x = Check.sets("sets 9 9;set a;add a 0 1 2 3 4 5;");
        for (int cursor = 0; cursor < 4; cursor++) {
            x.open(0, false);
            stepTo(x, cursor, cursor == 3 ? 6 : 4);
        }
        int cost = x.size(6);
        x.remove(0, 1);
        Check.members("1 out: 3 to 1, 5 to 3", x, 0, "0 3 2 5 4");
        Check.same("two moves", x.size(6), cost + 4);
        Check.same("position of 0", x.cursor(0, 1), 3);
        Check.same("position of 1", x.cursor(1, 1), 3);
        Check.same("position of 2", x.cursor(2, 1), 3);
        Check.same("position of 3", x.cursor(3, 1), 5);
        x.open(0, false);
        stepTo(x, 4, 2);
        cost = x.size(6);
        x.remove(0, 3);
        Check.members("a hole just before a position: 2 to 1, 4 to 2", x, 0, "0 2 4 5");
        Check.same("two moves", x.size(6), cost + 4);
        Check.same("position of 4", x.cursor(4, 1), 1);
        Check.same("position of 0", x.cursor(0, 1), 2);
        Check.same("position of 3", x.cursor(3, 1), 4);
    }

    private static void metOnce() {
        TwinSets x = Check.sets("sets 16 9;set a;add a 0 1 2 3 4 5 6 7 8 9;");
        x.open(0, false);
        int seen = 0;
        for (int i = 0; i < 10; i++) {
            int number = x.step(0);
            if (number == -1) {
                break;
            }
            Check.same("met before: " + number, seen >> number & 1, 0);
            seen |= 1 << number;
            x.remove(0, (number + 7) % 10);
            x.add(0, 10 + i % 6);
        }
        Check.same("position", x.cursor(0, 1) <= x.set(0, 0), true);
    }

    private static void clearEnds() {
        TwinSets x = Check.sets("sets 9 9;set a;set b;add a 0 1 2;add b 3;");
        x.open(0, false);
        x.open(0, true);
        x.open(1, false);
        x.step(0);
        x.step(0);
        x.clear(0);
        cursor("ended by clear", x, 0, 0, 2, 0, 0, 4, 2, 1);
        cursor("ended by clear", x, 1, 0, 0, 0, 1, 4, 0, -1);
        Check.same("another set's cursor", x.cursor(2, 2), 1);
        x.add(0, 1);
        Check.same("step of one that clear ended", x.step(1), -1);
        Check.same("size(5) counts ended ones", x.size(5), 3);
        x.clear(0);
        x.open(0, false);
        x.clear(0);
        Check.same("clear of an empty set ends, too", x.cursor(3, 2), 0);
    }

    private static void removeMet() {
        TwinSets x = Check.sets("sets 9 9;set a;set b;add a 0 1 2 3;add b 1;");
        x.open(0, false);
        x.open(0, true);
        int changes = x.size(7);
        Check.throwsState("removeMet before the first meeting", () -> x.removeMet(0));
        Check.same("that is no change", x.size(7), changes);
        x.step(0);
        x.step(0);
        x.step(1);
        Check.same("removeMet(0)", x.removeMet(0), 1);
        Check.members("removeMet", x, 0, "0 3 2");
        Check.same("only in its set", x.place(1, 1), 0);
        Check.same("lastMet stays", x.cursor(0, 6), 1);
        Check.same("met stays", x.cursor(0, 5), 2);
        Check.same("position", x.cursor(0, 1), 1);
        Check.throwsState("removeMet again", () -> x.removeMet(0));
        x.add(0, 1);
        Check.same("added again, it is a member", x.removeMet(0), 1);
        Check.same("the step goes on", x.step(0), 3);
        Check.same("removeMet(1)", x.removeMet(1), 0);
        Check.members("removeMet with two cursors", x, 0, "3 2");
        Check.same("step", x.step(0), 2);
        Check.same("step ends", x.step(0), -1);
        Check.throwsState("removeMet of an ended one", () -> x.removeMet(0));
        x.clear(0);
        x.add(0, 0);
        Check.throwsState("removeMet of one that clear ended", () -> x.removeMet(1));
        Check.throwsIndex("removeMet(2)", () -> x.removeMet(2));
        Check.throwsIndex("removeMet(-1)", () -> x.removeMet(-1));
        Check.throwsIndex("removeMet(6)", () -> x.removeMet(6));
    }
}
