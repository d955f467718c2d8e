import java.util.Arrays;

/** The boundary cases of cursors and of promises 17, 18 and 26 to 29: a method for each sentence of the document. */
public final class CursorEdgesTest {
    public static void main(String[] args) {
        sixCursors();
        positionAtFirst();
        openUntilItEnds();
        holeAndPosition();
        holeAndPositions();
        cursorsThatDoNotCount();
        strictByOneStamp();
        stepPassesAll();
        metOnce();
        removedIsNotMet();
        positionOfAnEndedOne();
        lastMet();
        metCount();
        madeAt();
        aheadOfEnded();
        aheadMembers();
        lowestNumber();
        closeMet();
        numberNotInUse();
        stepNone();
        removeMetMember();
        removedAndAddedAgain();
        Check.end();
    }

    private static void stepTo(TwinSets x, int cursor, int position) {
        for (int i = x.cursor(cursor, 1); i < position; i++) {
            x.step(cursor);
        }
    }

    // ---- the terms

    private static void sixCursors() {
        Check.sentence("Terms", "There are up to 6 cursors.");
        TwinSets x = Check.sets("sets 9 9;set a;add a 1 2;");
        for (int i = 0; i < 6; i++) {
            Check.same("open", x.open(0, false), i);
        }
        for (int i = 0; i < 6; i++) {
            Check.same("step of each", x.step(i), 1);
        }
        Check.throwsState("a seventh", () -> x.open(0, false));
        Check.same("the sixth goes on", x.step(5), 2);
        Check.same("the first stands where it was", x.cursor(0, 1), 1);
    }

    private static void positionAtFirst() {
        Check.sentence("Terms", "A cursor belongs to a set and has a position, 0 at first: all places less than it have been passed.");
        TwinSets x = Check.sets("sets 9 9;set a;set b;add a 1 2;");
        x.open(0, true);
        x.open(1, false);
        Check.same("position", x.cursor(0, 1), 0);
        Check.same("position in an empty set", x.cursor(1, 1), 0);
        x.step(0);
        Check.same("position behind a step", x.cursor(0, 1), 1);
        x.step(0);
        Check.same("position at the end", x.cursor(0, 1), 2);
        x.close(0);
        x.open(1, false);
        Check.same("position of another one with its number", x.cursor(0, 1), 0);
        Check.same("its set", x.cursor(0, 0), 1);
        Check.same("the members that it has met", x.cursor(0, 5), 0);
    }

    private static void openUntilItEnds() {
        Check.sentence("Terms", "It is open until it ends.");
        TwinSets x = Check.sets("sets 9 9;set a;set b;add a 1;");
        x.open(0, false);
        x.step(0);
        Check.same("all are passed, and it is open", x.cursor(0, 2), 1);
        x.remove(0, 1);
        Check.same("the set is empty, and it is open", x.cursor(0, 2), 1);
        x.add(0, 2);
        Check.same("what comes is met", x.step(0), 2);
        x.step(0);
        Check.same("it has ended", x.cursor(0, 2), 0);
        x.add(0, 3);
        Check.same("it does not open again", x.cursor(0, 2), 0);
        Check.same("and meets nothing", x.step(0), -1);
        x.open(0, false);
        x.clear(1);
        Check.same("clear of another set", x.cursor(1, 2), 1);
        x.clear(0);
        Check.same("clear of its set", x.cursor(1, 2), 0);
    }

    private static void hole(int hole, int[] positions, String members, int[] positionsThen, int cost) {
        TwinSets x = Check.sets("sets 5 20;set a;add a 0 1 2 3;");
        for (int cursor = 0; cursor < positions.length; cursor++) {
            x.open(0, false);
            stepTo(x, cursor, positions[cursor]);
        }
        int before = x.size(6);
        String call = "remove(0, " + hole + "), cursors at " + Arrays.toString(positions);
        Check.same(call, x.remove(0, hole), true);
        Check.members(call, x, 0, members);
        Check.same(call + ": cost", x.size(6) - before, cost);
        for (int cursor = 0; cursor < positions.length; cursor++) {
            Check.same(call + ": position of " + cursor, x.cursor(cursor, 1), positionsThen[cursor]);
            Check.same(call + ": ahead of " + cursor, x.ahead(cursor), 3 - positionsThen[cursor]);
        }
    }

    private static int[] at(int... positions) {
        return positions;
    }

    private static void holeAndPosition() {
        Check.sentence("Terms", "if its position is greater than the place of the hole, the member at the place position - 1 "
                + "is moved into the hole (if that is another place), the hole is at position - 1 then, and the position falls by 1.");
        hole(0, at(0), "3 1 2", at(0), 2);
        hole(0, at(1), "3 1 2", at(0), 2);
        hole(0, at(2), "1 3 2", at(1), 4);
        hole(0, at(3), "2 1 3", at(2), 4);
        hole(0, at(4), "3 1 2", at(3), 2);
        hole(1, at(0), "0 3 2", at(0), 2);
        hole(1, at(1), "0 3 2", at(1), 2);
        hole(1, at(2), "0 3 2", at(1), 2);
        hole(1, at(3), "0 2 3", at(2), 4);
        hole(1, at(4), "0 3 2", at(3), 2);
        hole(2, at(0), "0 1 3", at(0), 2);
        hole(2, at(1), "0 1 3", at(1), 2);
        hole(2, at(2), "0 1 3", at(2), 2);
        hole(2, at(3), "0 1 3", at(2), 2);
        hole(2, at(4), "0 1 3", at(3), 2);
        hole(3, at(0), "0 1 2", at(0), 0);
        hole(3, at(3), "0 1 2", at(3), 0);
        hole(3, at(4), "0 1 2", at(3), 0);
    }

    private static void holeAndPositions() {
        Check.sentence("Terms", "For each cursor of the set that is open, in the order of their positions, the least first "
                + "(of equal ones that with the lower number)");
        hole(0, at(2, 4), "1 3 2", at(1, 3), 4);
        hole(0, at(4, 2), "1 3 2", at(3, 1), 4);
        hole(0, at(1, 3), "2 1 3", at(0, 2), 4);
        hole(0, at(3, 1), "2 1 3", at(2, 0), 4);
        hole(0, at(3, 3), "2 1 3", at(2, 2), 4);
        hole(0, at(1, 1), "3 1 2", at(0, 0), 2);
        hole(0, at(1, 2), "1 3 2", at(0, 1), 4);
        hole(0, at(1, 2, 3, 4), "1 2 3", at(0, 1, 2, 3), 6);
        hole(0, at(4, 3, 2, 1), "1 2 3", at(3, 2, 1, 0), 6);
        hole(0, at(4, 3, 4, 3, 0), "2 1 3", at(3, 2, 3, 2, 0), 4);
        hole(1, at(2, 3), "0 2 3", at(1, 2), 4);
        hole(1, at(1, 4), "0 3 2", at(1, 3), 2);
        hole(1, at(4, 0, 4, 0, 2, 4), "0 3 2", at(3, 0, 3, 0, 1, 3), 2);
        hole(3, at(4, 4, 3), "0 1 2", at(3, 3, 3), 0);
    }

    private static void cursorsThatDoNotCount() {
        Check.sentence("Terms", "For each cursor of the set that is open");
        TwinSets x = Check.sets("sets 5 20;set a;set b;add a 0 1 2 3;add b 0 1 2 3;");
        x.open(1, false);
        stepTo(x, 0, 3);
        x.open(0, false);
        stepTo(x, 1, 3);
        x.close(1);
        x.open(0, false);
        stepTo(x, 1, 4);
        x.step(1);
        Check.same("one that has ended", x.cursor(1, 2), 0);
        int before = x.size(6);
        x.remove(0, 0);
        Check.members("one of another set, a closed and an ended one", x, 0, "3 1 2");
        Check.same("cost", x.size(6), before + 2);
        Check.same("position of the one of another set", x.cursor(0, 1), 3);
        Check.same("position of the ended one", x.cursor(1, 1), 4);
        x.remove(1, 0);
        Check.members("the open one of the set b", x, 1, "2 1 3");
    }

    private static void strictByOneStamp() {
        Check.sentence("Terms", "A strict cursor meets only members whose stamps are not greater than the clock was when it was made; "
                + "it passes the others without meeting them.");
        TwinSets x = Check.sets("sets 9 9;set a;set b;");
        x.open(0, true);
        x.add(0, 5);
        Check.same("made at 0, the stamp is 1", x.step(0), -1);
        Check.same("it was passed", x.cursor(0, 1), 1);
        Check.same("and not met", x.cursor(0, 5), 0);
        x.open(0, true);
        x.open(0, false);
        x.add(0, 6);
        Check.same("made at 1, the stamp is 1", x.step(1), 5);
        Check.same("made at 1, the stamp is 2", x.step(1), -1);
        Check.same("one that is not strict, the stamp is 1", x.step(2), 5);
        Check.same("one that is not strict, the stamp is 2", x.step(2), 6);
        // The clock is that of all sets.
        x.add(1, 0);
        x.open(0, true);
        x.remove(0, 5);
        x.add(0, 5);
        Check.same("made at 3, the stamp is 2", x.step(3), 6);
        Check.same("made at 3, the stamp is 5", x.step(3), -1);
    }

    private static void stepPassesAll() {
        Check.sentence("Terms", "By a step, a cursor passes members from its position on until it has met one; if there is none, it ends.");
        TwinSets x = Check.sets("sets 64 60;set a;");
        x.open(0, true);
        x.open(0, false);
        for (int number = 0; number < 64; number++) {
            x.add(0, number);
        }
        int cost = x.size(6);
        Check.same("64 members are passed, none is met", x.step(0), -1);
        Check.same("cost", x.size(6), cost + 64);
        Check.same("position", x.cursor(0, 1), 64);
        Check.same("it has ended", x.cursor(0, 2), 0);
        for (int number = 0; number < 64; number++) {
            Check.same("each of 64 is met", x.step(1), number);
        }
        Check.same("position", x.cursor(1, 1), 64);
        Check.same("cost", x.size(6), cost + 128);
        Check.same("none is left", x.step(1), -1);
        Check.same("cost", x.size(6), cost + 128);
        Check.same("position", x.cursor(1, 1), 64);
    }

    private static void metOnce() {
        Check.sentence("Terms", "So each member is met by a cursor once at most (a number that was removed and added again is another member)");
        // Whatever goes between two steps, each of the others is met once.
        for (int gone = 0; gone < 6; gone++) {
            for (int when = 0; when <= 6; when++) {
                TwinSets x = Check.sets("sets 6 20;set a;add a 0 1 2 3 4 5;");
                x.open(0, false);
                int[] met = new int[6];
                for (int i = 0; i < 8; i++) {
                    if (i == when) {
                        x.remove(0, gone);
                    }
                    int number = x.step(0);
                    if (number >= 0 && number < 6) {
                        met[number]++;
                    }
                }
                for (int number = 0; number < 6; number++) {
                    boolean isDue = number != gone || gone < when;
                    Check.same(gone + " goes behind " + when + " steps, met " + number, met[number], isDue ? 1 : 0);
                }
            }
        }
        TwinSets x = Check.sets("sets 6 20;set a;add a 0 1 2;");
        x.open(0, false);
        x.open(0, true);
        x.step(0);
        x.step(1);
        x.removeMet(0);
        x.add(0, 0);
        Check.same("step", x.step(0), 2);
        Check.same("step", x.step(0), 1);
        Check.same("0 came again, it is another member", x.step(0), 0);
        Check.same("step of the strict one", x.step(1), 2);
        Check.same("step of the strict one", x.step(1), 1);
        Check.same("the strict one does not meet it", x.step(1), -1);
    }

    private static void removedIsNotMet() {
        Check.sentence("Terms", "nothing that has been removed is met");
        TwinSets x = Check.sets("sets 6 20;set a;set b;add a 0 1 2 3;add b 0;");
        x.open(0, false);
        x.remove(0, 0);
        x.remove(0, 3);
        Check.same("ahead", x.ahead(0), 2);
        Check.same("step", x.step(0), 2);
        x.remove(0, 1);
        Check.same("nothing is left", x.step(0), -1);
        x.open(0, false);
        x.keep(0, 1);
        Check.same("all went by keep", x.step(1), -1);
        x.add(0, 5);
        x.open(0, false);
        x.clear(0);
        x.add(0, 4);
        Check.same("clear ends", x.step(2), -1);
    }

    // ---- promises 17 and 18

    private static void positionOfAnEndedOne() {
        Check.sentence("Promise 17", "1 its position (of one that has ended, as it was then)");
        TwinSets x = Check.sets("sets 9 20;set a;add a 0 1 2;");
        for (int cursor = 0; cursor < 4; cursor++) {
            x.open(0, false);
            stepTo(x, cursor, cursor);
        }
        x.step(3);
        x.remove(0, 0);
        Check.same("ended by a step, behind a removal", x.cursor(3, 1), 3);
        x.clear(0);
        x.add(0, 5);
        x.remove(0, 5);
        Check.same("ended by clear at 0", x.cursor(0, 1), 0);
        Check.same("ended by clear at 0, one of 1", x.cursor(1, 1), 0);
        Check.same("ended by clear at 1", x.cursor(2, 1), 1);
        Check.same("ended by a step, behind clear", x.cursor(3, 1), 3);
        x.step(3);
        x.step(2);
        Check.same("a step of an ended one", x.cursor(3, 1), 3);
        Check.same("a step of one that clear ended", x.cursor(2, 1), 1);
    }

    private static void lastMet() {
        Check.sentence("Promise 17", "6 the member that it met last (NONE before the first one; it stays so when that is removed)");
        TwinSets x = Check.sets("sets 9 20;set a;set b;add a 0 8;");
        x.open(0, false);
        x.open(1, false);
        Check.same("before the first one", x.cursor(0, 6), -1);
        x.step(0);
        Check.same("0", x.cursor(0, 6), 0);
        x.remove(0, 0);
        Check.same("0 is removed", x.cursor(0, 6), 0);
        x.step(0);
        Check.same("8", x.cursor(0, 6), 8);
        x.step(0);
        Check.same("behind the step that ends", x.cursor(0, 6), 8);
        x.clear(0);
        Check.same("behind clear", x.cursor(0, 6), 8);
        x.step(1);
        Check.same("one that ends without meeting", x.cursor(1, 6), -1);
        x.close(0);
        x.open(0, false);
        Check.same("one with the same number", x.cursor(0, 6), -1);
    }

    private static void metCount() {
        Check.sentence("Promise 17", "5 how many members it has met");
        TwinSets x = Check.sets("sets 9 20;set a;add a 0 1;");
        x.open(0, true);
        x.remove(0, 0);
        x.add(0, 0);
        Check.same("none yet", x.cursor(0, 5), 0);
        x.step(0);
        Check.same("one", x.cursor(0, 5), 1);
        x.step(0);
        Check.same("passed and not met", x.cursor(0, 5), 1);
        x.step(0);
        Check.same("a step of an ended one", x.cursor(0, 5), 1);
        x.open(0, false);
        for (int i = 1; i <= 5; i++) {
            x.step(1);
            int number = x.removeMet(1);
            x.add(0, number);
            Check.same("a number that came again counts again", x.cursor(1, 5), i);
        }
    }

    private static void madeAt() {
        Check.sentence("Promise 17", "2 1 if it is open, otherwise 0, 3 1 if it is strict, otherwise 0, 4 the clock when it was made");
        TwinSets x = Check.sets("sets 9 20;set a;");
        x.open(0, false);
        x.open(0, true);
        x.add(0, 0);
        x.open(0, true);
        x.add(0, 1);
        x.step(1);
        int[][] due = {{1, 0, 0}, {0, 1, 0}, {1, 1, 1}};
        for (int cursor = 0; cursor < 3; cursor++) {
            for (int what = 2; what < 5; what++) {
                Check.same("cursor(" + cursor + ", " + what + ")", x.cursor(cursor, what), due[cursor][what - 2]);
            }
        }
    }

    private static void aheadOfEnded() {
        Check.sentence("Promise 18", "Returns the number; 0 if it has ended.");
        TwinSets x = Check.sets("sets 9 20;set a;add a 0 1;");
        x.open(0, false);
        x.open(0, false);
        stepTo(x, 0, 2);
        Check.same("at the end", x.ahead(0), 0);
        x.step(0);
        x.add(0, 2);
        Check.same("ended by a step", x.ahead(0), 0);
        Check.same("the other one", x.ahead(1), 3);
        x.clear(0);
        x.add(0, 2);
        Check.same("ended by clear", x.ahead(1), 0);
    }

    private static void aheadMembers() {
        Check.sentence("Promise 18", "Returns how many members a cursor would still meet if nothing came or went.");
        TwinSets x = Check.sets("sets 64 60;set a;set b;");
        x.open(0, false);
        x.open(0, true);
        x.open(1, true);
        Check.same("of an empty set", x.ahead(0), 0);
        for (int number = 0; number < 64; number++) {
            x.add(0, number);
            Check.same("one that is not strict", x.ahead(0), number + 1);
        }
        Check.same("a strict one that was made before", x.ahead(1), 0);
        Check.same("one of another set", x.ahead(2), 0);
        x.open(0, true);
        Check.same("a strict one that is made now", x.ahead(3), 64);
        x.remove(0, 0);
        x.add(0, 0);
        Check.same("behind one that came later", x.ahead(3), 63);
        for (int left = 63; left > 0; left--) {
            Check.same("still to be met", x.ahead(3), left);
            Check.same("a step meets", x.step(3) >= 0, true);
        }
        Check.same("none to be met, one to be passed", x.ahead(3), 0);
        Check.same("it is open", x.cursor(3, 2), 1);
        Check.same("the step ends it", x.step(3), -1);
    }

    // ---- promises 26 to 29

    private static void lowestNumber() {
        Check.sentence("Promise 26", "Returns its number, the lowest one of 0 to 5 that is not in use.");
        TwinSets x = Check.sets("sets 9 20;set a;add a 0;");
        for (int i = 0; i < 6; i++) {
            x.open(0, false);
        }
        int[][] closed = {{0}, {5}, {3, 1}, {5, 4}, {0, 5, 2}};
        for (int[] numbers : closed) {
            for (int number : numbers) {
                x.close(number);
            }
            Arrays.sort(numbers);
            for (int number : numbers) {
                Check.same("open", x.open(0, true), number);
            }
        }
        x.clear(0);
        Check.throwsState("ended ones are in use", () -> x.open(0, true));
        x.undo();
        x.close(2);
        x.undo();
        Check.throwsState("close undone", () -> x.open(0, true));
        x.close(4);
        Check.same("open", x.open(0, true), 4);
        x.undo();
        Check.same("open undone", x.open(0, true), 4);
    }

    private static void closeMet() {
        Check.sentence("Promise 27", "Returns how many members it had met.");
        TwinSets x = Check.sets("sets 9 20;set a;add a 0 1 2;");
        for (int cursor = 0; cursor < 5; cursor++) {
            x.open(0, false);
            for (int i = 0; i < cursor; i++) {
                x.step(cursor);
            }
        }
        x.open(0, false);
        x.step(5);
        x.clear(0);
        int[] due = {0, 1, 2, 3, 3, 1};
        for (int cursor = 5; cursor >= 0; cursor--) {
            Check.same("close(" + cursor + ")", x.close(cursor), due[cursor]);
        }
        Check.same("size(5)", x.size(5), 0);
    }

    private static void numberNotInUse() {
        Check.sentence("Promise 27", "Takes a cursor away, open or ended; its number is not in use any more.");
        TwinSets x = Check.sets("sets 9 20;set a;add a 0;");
        for (int round = 0; round < 2; round++) {
            x.open(0, false);
            x.open(0, false);
            if (round == 1) {
                x.clear(0);
            }
            x.close(0);
            Check.same("size(5)", x.size(5), 1);
            Check.throwsIndex("cursor(0, 0)", () -> x.cursor(0, 0));
            Check.throwsIndex("ahead(0)", () -> x.ahead(0));
            Check.throwsIndex("step(0)", () -> x.step(0));
            Check.throwsIndex("removeMet(0)", () -> x.removeMet(0));
            Check.throwsIndex("close(0)", () -> x.close(0));
            Check.same("the other one stays", x.cursor(1, 0), 0);
            x.close(1);
        }
    }

    private static void stepNone() {
        Check.sentence("Promise 28", "Returns the member that it meets; NONE if it ends by this step, or has ended before.");
        TwinSets x = Check.sets("sets 9 20;set a;set b;add a 0 8;");
        x.open(0, false);
        x.open(1, false);
        Check.same("0 is a member", x.step(0), 0);
        Check.same("8 is a member", x.step(0), 8);
        Check.same("it ends", x.step(0), -1);
        Check.same("it has ended", x.step(0), -1);
        Check.same("an empty set", x.step(1), -1);
        x.add(1, 3);
        Check.same("it has ended in the empty set", x.step(1), -1);
        x.undo();
        x.undo();
        x.undo();
        x.add(1, 3);
        Check.same("the step that ended it is undone", x.step(1), 3);
    }

    private static void removeMetMember() {
        Check.sentence("Promise 29", "if it has not met one, has ended, or that number is no member now");
        TwinSets x = Check.sets("sets 9 20;set a;set b;add a 0 1;add b 0;");
        x.open(0, false);
        x.open(0, false);
        Check.throwsState("it has not met one", () -> x.removeMet(0));
        x.step(0);
        x.step(1);
        Check.same("removeMet(1)", x.removeMet(1), 0);
        Check.throwsState("it was removed by this cursor", () -> x.removeMet(1));
        Check.throwsState("it was removed by another cursor", () -> x.removeMet(0));
        Check.same("the member of another set stays", x.place(1, 0), 0);
        x.step(0);
        x.step(0);
        Check.throwsState("it has ended by a step", () -> x.removeMet(0));
        Check.same("its last one is a member", x.place(0, 1), 0);
        x.step(1);
        x.clear(0);
        x.add(0, 1);
        Check.throwsState("it has ended by clear", () -> x.removeMet(1));
        x.add(0, 2);
        x.open(0, true);
        x.step(2);
        x.keep(0, 1);
        Check.throwsState("it was removed by keep", () -> x.removeMet(2));
    }

    private static void removedAndAddedAgain() {
        Check.sentence("Promise 29", "Removes the member that a cursor met last from its set. Returns the member.");
        Check.sentence("Promise 29", "(if it was removed and added again, it is one)");
        TwinSets x = Check.sets("sets 9 20;set a;add a 0 1 2;");
        x.open(0, true);
        x.step(0);
        x.step(0);
        x.remove(0, 1);
        Check.throwsState("removed", () -> x.removeMet(0));
        x.add(0, 1);
        Check.members("added again", x, 0, "0 2 1");
        Check.same("removeMet, behind the position", x.removeMet(0), 1);
        Check.members("removeMet", x, 0, "0 2");
        Check.same("position", x.cursor(0, 1), 1);
        Check.same("met", x.cursor(0, 5), 2);
        Check.same("step", x.step(0), 2);
    }
}
