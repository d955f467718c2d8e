/** The boundary cases of twin rows, stamps and promises 8 to 16: a method for each sentence of the document. */
public final class SetEdgesTest {
    private static final int[] FAR = {-1, -2, 64, 65, 128, Integer.MAX_VALUE, Integer.MIN_VALUE};

    public static void main(String[] args) {
        numberedFrom0();
        zeroAtFirst();
        whatAMemberIs();
        orderOfPlaces();
        cellsThatKeepWhatTheyHeld();
        addNoMember();
        addAMember();
        moveAMember();
        removeLast();
        clearSet();
        clock();
        whatIsNoEvent();
        stampOfAMember();
        eventsThatAreKept();
        firstStamp();
        setAtAStamp();
        openCursors();
        cellsOfNoMember();
        cellRange();
        placeNone();
        stampOfNone();
        eventNone();
        eventOfClear();
        atBits();
        atRange();
        differsByMembers();
        differsRange();
        sinceStamp();
        sinceClear();
        sinceNone();
        fullestLeast();
        fullestRange();
        Check.end();
    }

    // ---- the terms: twin rows

    private static void numberedFrom0() {
        Check.sentence("Terms", "Sets, cursors, places and marks are numbered from 0.");
        TwinSets x = Check.sets("sets 9 9;set a;set b;");
        Check.same("the first set", Check.find(x, "a"), 0);
        Check.same("the second set", Check.find(x, "b"), 1);
        Check.same("the first place", x.add(0, 7), 0);
        Check.same("the first cursor", x.open(0, false), 0);
        Check.same("the first mark", x.mark(), 0);
        Check.same("its clock", x.marked(0), 1);
        Check.throwsIndex("the set 2", () -> x.set(2, 0));
        Check.throwsIndex("the cursor 1", () -> x.cursor(1, 0));
        Check.same("the mark 1", x.marked(1), -1);
    }

    private static void zeroAtFirst() {
        Check.sentence("Terms", "A set has a size, a row of members with universe cells, a row of places with universe cells, "
                + "all 0 at first, and a generation, 0 at first.");
        TwinSets x = Check.sets("sets 64 9;set a;set b;set c;set d;set e;");
        for (int universe : new int[] {64, 1, 2, 63, 64}) {
            Check.same("parse", Check.parse(x, "sets " + universe + " 60;set a;set b;set c;set d;set e;"), 0);
            for (int set = 0; set < 5; set++) {
                Check.same("size", x.set(set, 0), 0);
                Check.same("generation", x.set(set, 1), 0);
                for (int cell = 0; cell < universe; cell++) {
                    Check.same("a row of members", x.cell(set, cell, false), 0);
                    Check.same("a row of places", x.cell(set, cell, true), 0);
                }
                int chosen = set;
                Check.throwsArgument("one cell more", () -> x.cell(chosen, universe, true));
                fill(x, set, universe);
                x.clear(set);
                fill(x, set, universe);
            }
        }
    }

    private static void fill(TwinSets x, int set, int universe) {
        for (int number = universe - 1; number >= 0; number--) {
            x.add(set, number);
        }
    }

    private static void whatAMemberIs() {
        Check.sentence("Terms", "A number x is a member if its cell in the row of places holds p, p is less than size, "
                + "and the cell p of the row of members holds x.");
        TwinSets x = Check.sets("sets 9 9;set a;");
        Check.same("0, whose rows agree, in an empty set", x.place(0, 0), -1);
        x.add(0, 2);
        Check.same("0, whose place is that of 2", x.place(0, 0), -1);
        x.add(0, 0);
        Check.same("0 at the place 1", x.place(0, 0), 1);
        Check.same("1, whose place is that of 2", x.place(0, 1), -1);
        x.remove(0, 0);
        Check.same("0, whose rows agree, at the place size", x.place(0, 0), -1);
        x.clear(0);
        Check.same("2, whose rows agree, in an empty set", x.place(0, 2), -1);
        x.add(0, 5);
        Check.same("2, whose place is that of 5", x.place(0, 2), -1);
        Check.same("0, whose rows agree, at the place size again", x.place(0, 0), -1);
        x.add(0, 7);
        Check.same("0, whose place is that of 7", x.place(0, 0), -1);
        Check.same("7", x.place(0, 7), 1);
        Check.same("what is no member comes", x.add(0, 0), 2);
    }

    private static void orderOfPlaces() {
        Check.sentence("Terms", "The members are in the order of the places 0 to size - 1.");
        TwinSets x = Check.sets("sets 64 60;set a;");
        fill(x, 0, 64);
        for (int place = 0; place < 64; place++) {
            Check.same("the member at " + place, x.cell(0, place, false), 63 - place);
            Check.same("its place", x.place(0, 63 - place), place);
        }
    }

    private static void rows(String when, TwinSets x, int[] members, int[] places) {
        for (int cell = 0; cell < members.length; cell++) {
            Check.same(when + ": cell(0, " + cell + ", false)", x.cell(0, cell, false), members[cell]);
            Check.same(when + ": cell(0, " + cell + ", true)", x.cell(0, cell, true), places[cell]);
        }
    }

    private static void cellsThatKeepWhatTheyHeld() {
        Check.sentence("Terms", "Cells beyond that, and places of numbers that are no members, keep what they held.");
        TwinSets x = Check.sets("sets 5 9;set a;add a 4 3 2 1;");
        rows("four members", x, new int[] {4, 3, 2, 1, 0}, new int[] {0, 3, 2, 1, 0});
        x.remove(0, 3);
        rows("3 removed", x, new int[] {4, 1, 2, 1, 0}, new int[] {0, 1, 2, 1, 0});
        x.remove(0, 2);
        rows("the last removed", x, new int[] {4, 1, 2, 1, 0}, new int[] {0, 1, 2, 1, 0});
        x.clear(0);
        rows("cleared", x, new int[] {4, 1, 2, 1, 0}, new int[] {0, 1, 2, 1, 0});
        x.add(0, 2);
        rows("2 added", x, new int[] {2, 1, 2, 1, 0}, new int[] {0, 1, 0, 1, 0});
        x.clear(0);
        x.clear(0);
        rows("cleared again", x, new int[] {2, 1, 2, 1, 0}, new int[] {0, 1, 0, 1, 0});
    }

    private static void addNoMember() {
        Check.sentence("Terms", "To add a number that is no member: it is written into the cell size of the row of members, "
                + "size into its cell in the row of places, and the size rises by 1.");
        for (int universe : new int[] {1, 2, 64}) {
            TwinSets x = Check.sets("sets " + universe + " 60;set a;");
            for (int place = 0; place < universe; place++) {
                int number = universe - 1 - place;
                Check.same("add(0, " + number + ")", x.add(0, number), place);
                Check.same("the cell " + place, x.cell(0, place, false), number);
                Check.same("the place of " + number, x.cell(0, number, true), place);
                Check.same("size", x.set(0, 0), place + 1);
            }
            Check.same("it is full", x.set(0, 0), universe);
        }
    }

    private static void addAMember() {
        Check.sentence("Terms", "To add a member changes nothing.");
        for (int universe : new int[] {1, 3, 64}) {
            TwinSets x = Check.sets("sets " + universe + " 60;set a;");
            fill(x, 0, universe);
            String before = Look.all(x);
            Check.same("add of the first", x.add(0, universe - 1), 0);
            Check.same("add of the last", x.add(0, 0), universe - 1);
            Check.same("a full set", Look.all(x), before);
        }
        TwinSets x = Check.sets("sets 9 3;set a;add a 8 0;remove a 8;");
        String before = Look.all(x);
        x.add(0, 0);
        Check.same("a set that forgets at its next event", Look.all(x), before);
    }

    private static void moveAMember() {
        Check.sentence("Terms", "To move a member means to write it into the cell of the row of members, "
                + "and the place into its cell of the row of places.");
        TwinSets x = Check.sets("sets 5 9;set a;add a 4 3 2 1 0;");
        x.open(0, false);
        x.step(0);
        x.step(0);
        x.step(0);
        x.remove(0, 4);
        // 2 to the place 0, 0 to the place 2; the last cell and the place of 4 keep what they held.
        rows("4 removed", x, new int[] {2, 3, 0, 1, 0}, new int[] {2, 3, 0, 1, 0});
        Check.same("cost", x.size(6), 10 + 3 + 4);
        x.remove(0, 1);
        rows("the last removed", x, new int[] {2, 3, 0, 1, 0}, new int[] {2, 3, 0, 1, 0});
        x.remove(0, 2);
        // The position is 2: 3 to the place 0, 0 to the place 1.
        rows("2 removed", x, new int[] {3, 0, 0, 1, 0}, new int[] {1, 3, 0, 0, 0});
        Check.same("cost", x.size(6), 10 + 3 + 4 + 4);
    }

    private static void removeLast() {
        Check.sentence("Terms", "At last the member at the place size - 1 is moved into the hole (if that is another place), "
                + "and the size falls by 1.");
        TwinSets x = Check.sets("sets 64 60;set a;");
        fill(x, 0, 64);
        int cost = x.size(6);
        x.remove(0, 0);
        Check.same("the last of a full set: no cell is written", x.size(6), cost);
        Check.same("size", x.set(0, 0), 63);
        x.remove(0, 63);
        Check.same("the first: two cells", x.size(6), cost + 2);
        Check.same("the last is the first", x.place(0, 1), 0);
        Check.same("size", x.set(0, 0), 62);
        x.remove(0, 3);
        Check.same("the last but one: two cells", x.size(6), cost + 4);
        Check.same("its place", x.place(0, 2), 60);
        TwinSets y = Check.sets("sets 1 60;set a;add a 0;");
        Check.same("remove of the only one", y.remove(0, 0), true);
        Check.same("size", y.set(0, 0), 0);
        Check.same("cost", y.size(6), 2);
    }

    private static void clearSet() {
        Check.sentence("Terms", "To clear a set makes its size 0 and its generation greater by 1; its cursors end.");
        TwinSets x = Check.sets("sets 64 60;set a;set b;add b 1;");
        for (int generation = 1; generation <= 3; generation++) {
            x.open(0, false);
            Check.same("clear of an empty set", x.clear(0), 0);
            Check.same("generation", x.set(0, 1), generation);
            Check.same("its cursor", x.cursor(generation - 1, 2), 0);
        }
        fill(x, 0, 64);
        x.open(0, true);
        x.open(1, true);
        Check.same("clear of a full set", x.clear(0), 64);
        Check.same("generation", x.set(0, 1), 4);
        Check.same("size", x.set(0, 0), 0);
        Check.same("its cursor", x.cursor(3, 2), 0);
        Check.same("that of another set", x.cursor(4, 2), 1);
        Check.same("the generation of another set", x.set(1, 1), 0);
    }

    // ---- the terms: stamps

    private static void clock() {
        Check.sentence("Terms", "The clock is 0 at first. Each time a number that is no member is added to a set, a member is removed, "
                + "or a set that is not empty is cleared, the clock rises by 1, and that is an event of this set with this stamp.");
        TwinSets x = Check.sets("sets 9 9;set a;set b;");
        Check.same("at first", x.size(3), 0);
        x.add(0, 1);
        x.add(1, 1);
        x.remove(0, 1);
        x.add(0, 8);
        x.clear(0);
        Check.same("behind five events", x.size(3), 5);
        int[] stamps = {1, 3, 4, 5};
        int[] numbers = {1, 1, 8, -1};
        int[] kinds = {0, 1, 0, 2};
        for (int k = 0; k < 4; k++) {
            Check.same("stamp of event " + k, x.event(0, k, 0), stamps[k]);
            Check.same("number of event " + k, x.event(0, k, 1), numbers[k]);
            Check.same("kind of event " + k, x.event(0, k, 2), kinds[k]);
        }
        Check.same("events of the other set", x.set(1, 3), 1);
        Check.same("its stamp", x.event(1, 0, 0), 2);
    }

    private static void whatIsNoEvent() {
        Check.sentence("Terms", "or a set that is not empty is cleared");
        TwinSets x = Check.sets("sets 9 9;set a;set b;add b 0 1;remove b 0 1;");
        x.clear(0);
        x.clear(1);
        Check.same("the clock behind clear of empty sets", x.size(3), 4);
        Check.same("events", x.set(0, 3), 0);
        Check.same("events", x.set(1, 3), 4);
        x.remove(0, 0);
        x.remove(1, 0);
        x.add(0, 7);
        x.add(0, 7);
        Check.same("the clock behind one event", x.size(3), 5);
        x.clear(0);
        x.clear(0);
        Check.same("the clock behind one more", x.size(3), 6);
        Check.same("events", x.set(0, 3), 2);
    }

    private static void stampOfAMember() {
        Check.sentence("Terms", "The stamp of a member is the stamp of the event by which it came.");
        TwinSets x = Check.sets("sets 9 1;set a;add a 1 2 3 4;");
        x.remove(0, 1);
        Check.same("4 was moved", x.place(0, 4), 0);
        Check.same("its stamp stays", x.stampOf(0, 4), 4);
        Check.same("that of 2, whose event is forgotten", x.stampOf(0, 2), 2);
        x.add(0, 2);
        Check.same("that of 2, added as a member", x.stampOf(0, 2), 2);
        x.remove(0, 2);
        x.add(0, 2);
        Check.same("that of 2, come again", x.stampOf(0, 2), 7);
        x.clear(0);
        x.add(0, 4);
        Check.same("that of 4 behind clear", x.stampOf(0, 4), 9);
    }

    private static void eventsThatAreKept() {
        Check.sentence("Terms", "The latest events of a set are kept, as many as horizon at most.");
        for (int horizon : new int[] {1, 2, 3, 59, 60}) {
            TwinSets x = Check.sets("sets 64 " + horizon + ";set a;");
            for (int n = 1; n <= 64; n++) {
                x.add(0, 64 - n);
                int kept = Math.min(n, horizon);
                Check.same("events kept of " + n, x.set(0, 3), kept);
                Check.same("the first", x.event(0, 0, 0), n - kept + 1);
                Check.same("its number", x.event(0, 0, 1), 64 - (n - kept + 1));
                Check.same("the latest", x.event(0, kept - 1, 0), n);
                Check.same("one behind it", x.event(0, kept, 0), -1);
            }
        }
    }

    private static void firstStamp() {
        Check.sentence("Terms", "Its first stamp is 0 as long as none of its events has been forgotten; "
                + "otherwise it is the stamp of the latest event that has been forgotten.");
        for (int horizon : new int[] {1, 2, 60}) {
            TwinSets x = Check.sets("sets 64 " + horizon + ";set a;set b;");
            for (int n = 1; n <= 64; n++) {
                x.add(0, n - 1);
                Check.same("first stamp behind " + n + " events", x.set(0, 2), Math.max(0, n - horizon));
            }
            Check.same("that of the other set", x.set(1, 2), 0);
        }
        // The stamps of two sets by turns: 1 and 2, 3 and 4, 5 and 6.
        TwinSets x = Check.sets("sets 9 2;set a;set b;");
        for (int number = 0; number < 3; number++) {
            x.add(0, number);
            x.add(1, number);
        }
        Check.same("first stamp of a", x.set(0, 2), 1);
        Check.same("first stamp of b", x.set(1, 2), 2);
        x.clear(0);
        Check.same("first stamp of a behind clear", x.set(0, 2), 3);
        x.clear(0);
        Check.same("clear of an empty set forgets nothing", x.set(0, 2), 3);
    }

    private static void setAtAStamp() {
        Check.sentence("Terms", "The set at a stamp s, from its first stamp to the clock, is what its members were "
                + "behind all events with stamps up to s.");
        TwinSets x = Check.sets("sets 9 1;set a;set b;");
        Check.same("at 0", x.at(0, 0), 0);
        x.add(0, 0);
        Check.same("at 0, an event kept", x.at(0, 0), 0);
        Check.same("at 1", x.at(0, 1), 0b1);
        x.add(0, 1);
        Check.same("at the first stamp, a coming forgotten", x.at(0, 1), 0b1);
        Check.same("at 2", x.at(0, 2), 0b11);
        x.remove(0, 0);
        Check.same("at 2, another coming forgotten", x.at(0, 2), 0b11);
        Check.same("at 3", x.at(0, 3), 0b10);
        x.add(1, 5);
        Check.same("at 4, an event of the other set", x.at(0, 4), 0b10);
        x.clear(0);
        Check.same("at 3, a removal forgotten", x.at(0, 3), 0b10);
        Check.same("at 4, between two events", x.at(0, 4), 0b10);
        Check.same("at 5", x.at(0, 5), 0);
        x.add(0, 8);
        Check.same("at 5, a clear forgotten", x.at(0, 5), 0);
        Check.same("at 6", x.at(0, 6), 0b100000000);
        Check.same("the other set at 3", x.at(1, 3), 0);
        Check.same("the other set at 4", x.at(1, 4), 0b100000);
        Check.same("the other set at 6", x.at(1, 6), 0b100000);
    }

    // ---- promises 8 to 12

    private static void openCursors() {
        Check.sentence("Promise 8", "0 its size, 1 its generation, 2 its first stamp, 3 its events that are kept, 4 its cursors that are open");
        TwinSets x = Check.sets("sets 9 9;set a;set b;add a 1;");
        for (int i = 0; i < 6; i++) {
            Check.same("open cursors", x.set(0, 4), i);
            x.open(0, i % 2 == 0);
        }
        Check.same("six open cursors", x.set(0, 4), 6);
        Check.same("those of the other set", x.set(1, 4), 0);
        x.step(5);
        Check.same("one at the end is open", x.set(0, 4), 6);
        x.step(5);
        Check.same("one has ended", x.set(0, 4), 5);
        x.close(5);
        x.close(0);
        Check.same("one is closed", x.set(0, 4), 4);
        x.open(1, false);
        Check.same("one of the other set in its place", x.set(0, 4), 4);
        x.clear(0);
        Check.same("behind clear", x.set(0, 4), 0);
        Check.same("that of the other set", x.set(1, 4), 1);
    }

    private static void cellsOfNoMember() {
        Check.sentence("Promise 9", "Returns what a cell of a row of a set holds, also if no member is in it.");
        TwinSets x = Check.sets("sets 3 9;set a;add a 2 1;");
        x.clear(0);
        rows("cleared", x, new int[] {2, 1, 0}, new int[] {0, 1, 0});
        x.add(0, 1);
        rows("1 added", x, new int[] {1, 1, 0}, new int[] {0, 0, 0});
        x.undo();
        rows("undone", x, new int[] {2, 1, 0}, new int[] {0, 1, 0});
    }

    private static void cellRange() {
        Check.sentence("Promise 9", "0 to universe - 1");
        for (int universe : new int[] {1, 2, 63, 64}) {
            TwinSets x = Check.sets("sets " + universe + " 9;set a;");
            fill(x, 0, universe);
            Check.same("the first cell of members", x.cell(0, 0, false), universe - 1);
            Check.same("the last cell of members", x.cell(0, universe - 1, false), 0);
            Check.same("the first cell of places", x.cell(0, 0, true), universe - 1);
            Check.same("the last cell of places", x.cell(0, universe - 1, true), 0);
            for (int cell : new int[] {universe, universe + 1, -1}) {
                Check.throwsArgument("cell(0, " + cell + ", false)", () -> x.cell(0, cell, false));
                Check.throwsArgument("cell(0, " + cell + ", true)", () -> x.cell(0, cell, true));
            }
        }
    }

    private static void placeNone() {
        Check.sentence("Promise 10", "Returns the place; NONE if it is no member (also if it is out of the universe).");
        for (int universe : new int[] {1, 2, 63, 64}) {
            TwinSets x = Check.sets("sets " + universe + " 9;set a;");
            Check.same("of an empty set", x.place(0, 0), -1);
            Check.same("one beyond the universe, empty", x.place(0, universe), -1);
            fill(x, 0, universe);
            Check.same("the first", x.place(0, universe - 1), 0);
            Check.same("the last", x.place(0, 0), universe - 1);
            Check.same("one beyond the universe", x.place(0, universe), -1);
            for (int number : FAR) {
                Check.same("place(0, " + number + ")", x.place(0, number), -1);
            }
            x.remove(0, 0);
            Check.same("removed", x.place(0, 0), -1);
            x.clear(0);
            Check.same("cleared", x.place(0, universe - 1), -1);
        }
    }

    private static void stampOfNone() {
        Check.sentence("Promise 11", "Returns the stamp; NONE if the number is no member (also if it is out of the universe).");
        for (int universe : new int[] {1, 2, 63, 64}) {
            TwinSets x = Check.sets("sets " + universe + " 9;set a;");
            Check.same("of an empty set", x.stampOf(0, 0), -1);
            fill(x, 0, universe);
            Check.same("the first", x.stampOf(0, universe - 1), 1);
            Check.same("the last", x.stampOf(0, 0), universe);
            Check.same("one beyond the universe", x.stampOf(0, universe), -1);
            for (int number : FAR) {
                Check.same("stampOf(0, " + number + ")", x.stampOf(0, number), -1);
            }
            x.remove(0, 0);
            Check.same("removed", x.stampOf(0, 0), -1);
            x.clear(0);
            Check.same("cleared", x.stampOf(0, universe - 1), -1);
        }
    }

    private static void eventNone() {
        Check.sentence("Promise 12", "Returns the part; NONE if there are not so many, or k is negative.");
        for (int horizon : new int[] {1, 60}) {
            TwinSets x = Check.sets("sets 64 " + horizon + ";set a;");
            for (int kept = 0; kept <= horizon; kept++) {
                for (int part = 0; part < 3; part++) {
                    Check.same("event(0, " + kept + ", " + part + ")", x.event(0, kept, part), -1);
                    for (int k : new int[] {-1, 60, 61, Integer.MAX_VALUE, Integer.MIN_VALUE}) {
                        Check.same("event(0, " + k + ", " + part + ")", x.event(0, k, part), -1);
                    }
                }
                if (kept < horizon) {
                    x.add(0, 63 - kept);
                    Check.same("the latest", x.event(0, kept, 1), 63 - kept);
                }
            }
        }
    }

    private static void eventOfClear() {
        Check.sentence("Promise 12", "0 its stamp, 1 the number (NONE if the set was cleared), 2 0 if it came, 1 if it was removed, "
                + "2 if the set was cleared");
        TwinSets x = Check.sets("sets 9 3;set a;add a 0;remove a 0;add a 0 8;");
        x.clear(0);
        int[][] due = {{3, 0, 0}, {4, 8, 0}, {5, -1, 2}};
        for (int k = 0; k < 3; k++) {
            for (int part = 0; part < 3; part++) {
                Check.same("event(0, " + k + ", " + part + ")", x.event(0, k, part), due[k][part]);
            }
        }
        x.undo();
        Check.same("the first is a removal", x.event(0, 0, 2), 1);
        Check.same("of 0", x.event(0, 0, 1), 0);
    }

    // ---- promises 13 to 16

    private static void atBits() {
        Check.sentence("Promise 13", "Returns the set at a stamp, as bits: bit x is set if x was a member.");
        TwinSets x = Check.sets("sets 64 60;set a;");
        long bits = 0;
        int[] numbers = {63, 32, 31, 0, 62, 33, 30, 1};
        for (int i = 0; i < numbers.length; i++) {
            x.add(0, numbers[i]);
            bits |= 1L << numbers[i];
            Check.same("at(0, " + (i + 1) + ")", x.at(0, i + 1), bits);
        }
        Check.same("63 alone", x.at(0, 1), Long.MIN_VALUE);
        Check.same("63, 32 and 31", x.at(0, 3), 0x8000000180000000L);
        Check.same("none", x.at(0, 0), 0L);
        fill(x, 0, 64);
        Check.same("all", x.at(0, 64), -1L);
        x.remove(0, 31);
        Check.same("all but 31", x.at(0, 65), ~(1L << 31));
        x.remove(0, 63);
        Check.same("all but 31 and 63", x.at(0, 66), Long.MAX_VALUE - (1L << 31));
    }

    private static void atRange() {
        Check.sentence("Promise 13", "Throws `IllegalArgumentException` if the stamp is less than the first stamp of the set "
                + "or greater than the clock");
        TwinSets x = Check.sets("sets 9 2;set a;set b;");
        Check.same("the first stamp and the clock are 0", x.at(0, 0), 0);
        Check.throwsArgument("at(0, 1), the clock is 0", () -> x.at(0, 1));
        Check.throwsArgument("at(0, -1)", () -> x.at(0, -1));
        for (int number = 0; number < 5; number++) {
            x.add(0, number);
        }
        Check.same("at the first stamp", x.at(0, 3), 0b111);
        Check.same("at the clock", x.at(0, 5), 0b11111);
        Check.throwsArgument("one less than the first stamp", () -> x.at(0, 2));
        Check.throwsArgument("one more than the clock", () -> x.at(0, 6));
        Check.same("the other set at 0", x.at(1, 0), 0);
        Check.same("the other set at the clock", x.at(1, 5), 0);
        Check.throwsArgument("the other set, one more", () -> x.at(1, 6));
        for (int stamp : new int[] {-1, Integer.MAX_VALUE, Integer.MIN_VALUE}) {
            Check.throwsArgument("at(0, " + stamp + ")", () -> x.at(0, stamp));
            Check.throwsArgument("at(1, " + stamp + ")", () -> x.at(1, stamp));
        }
    }

    private static void differ(TwinSets x, int from, int to, int came, int went) {
        Check.same("differs(0, " + from + ", " + to + ", true)", x.differs(0, from, to, true), came);
        Check.same("differs(0, " + from + ", " + to + ", false)", x.differs(0, from, to, false), went);
        Check.same("differs(0, " + to + ", " + from + ", true)", x.differs(0, to, from, true), went);
        Check.same("differs(0, " + to + ", " + from + ", false)", x.differs(0, to, from, false), came);
    }

    private static void differsByMembers() {
        Check.sentence("Promise 14", "true for those that it has at to, and not at from, false for those that it has at from, and not at to");
        TwinSets x = Check.sets("sets 64 60;set a;");
        differ(x, 0, 0, 0, 0);
        fill(x, 0, 60);
        differ(x, 0, 60, 60, 0);
        differ(x, 60, 60, 0, 0);
        differ(x, 59, 60, 1, 0);
        x.clear(0);
        x.add(0, 63);
        x.add(0, 7);
        // At the first stamp 3 the set holds 59, 58 and 57.
        Check.same("first stamp", x.set(0, 2), 3);
        differ(x, 60, 61, 0, 60);
        differ(x, 3, 61, 0, 3);
        differ(x, 3, 63, 2, 3);
        differ(x, 60, 63, 1, 59);
        differ(x, 63, 63, 0, 0);
        TwinSets y = Check.sets("sets 64 2;set a;");
        fill(y, 0, 64);
        y.clear(0);
        differ(y, 64, 65, 0, 64);
        // What came and went between the two stamps does not count.
        TwinSets z = Check.sets("sets 9 9;set a;add a 1;remove a 1;add a 2;remove a 2;add a 1;");
        differ(z, 1, 5, 0, 0);
        differ(z, 0, 4, 0, 0);
    }

    private static void differsRange() {
        Check.sentence("Promise 14", "Throws `IllegalArgumentException` if one of the stamps is out of range, as for at");
        TwinSets x = Check.sets("sets 9 2;set a;add a 0 1 2 3 4;");
        Check.same("from the first stamp to the clock", x.differs(0, 3, 5, true), 2);
        for (int stamp : new int[] {2, 6, 0, -1, Integer.MAX_VALUE, Integer.MIN_VALUE}) {
            Check.throwsArgument("differs(0, " + stamp + ", 5, true)", () -> x.differs(0, stamp, 5, true));
            Check.throwsArgument("differs(0, 3, " + stamp + ", true)", () -> x.differs(0, 3, stamp, true));
            Check.throwsArgument("differs(0, " + stamp + ", 3, false)", () -> x.differs(0, stamp, 3, false));
            Check.throwsArgument("differs(0, 5, " + stamp + ", false)", () -> x.differs(0, 5, stamp, false));
            Check.throwsArgument("differs(0, " + stamp + ", " + stamp + ", true)", () -> x.differs(0, stamp, stamp, true));
        }
    }

    private static void sinceStamp() {
        Check.sentence("Promise 15", "the stamp of the latest event that is kept by which this changed for the number");
        TwinSets x = Check.sets("sets 64 2;set a;");
        x.add(0, 63);
        Check.same("63 came, the only event", x.since(0, 63), 1);
        x.add(0, 0);
        Check.same("63 came, the first event that is kept", x.since(0, 63), 1);
        Check.same("0 came, the latest event", x.since(0, 0), 2);
        x.remove(0, 63);
        Check.same("63 was removed", x.since(0, 63), 3);
        x.add(0, 63);
        Check.same("63 came again", x.since(0, 63), 4);
        Check.same("the coming of 0 is forgotten", x.since(0, 0), -1);
        x.add(0, 63);
        x.remove(0, 5);
        Check.same("what alters nothing is no event", x.since(0, 63), 4);
    }

    private static void sinceClear() {
        Check.sentence("Promise 15", "it came or was removed, or the set was cleared while it was a member");
        TwinSets x = Check.sets("sets 9 4;set a;add a 1 2 3;remove a 2;clear a;");
        Check.same("a member when it was cleared, its coming kept", x.since(0, 3), 5);
        Check.same("a member when it was cleared, its coming forgotten", x.since(0, 1), 5);
        Check.same("no member when it was cleared", x.since(0, 2), 4);
        Check.same("never a member", x.since(0, 8), -1);
        x.clear(0);
        Check.same("cleared when it was empty", x.since(0, 3), 5);
        x.add(0, 2);
        Check.same("came behind that", x.since(0, 2), 6);
        x.add(0, 8);
        x.clear(0);
        Check.same("cleared again", x.since(0, 8), 8);
        Check.same("that of 3: the earlier clear is the first event that is kept", x.since(0, 3), 5);
        x.add(0, 0);
        Check.same("that clear is forgotten", x.since(0, 3), -1);
        Check.same("that of 2", x.since(0, 2), 8);
    }

    private static void sinceNone() {
        Check.sentence("Promise 15", "Returns the stamp; NONE if no event that is kept changed it.");
        TwinSets x = Check.sets("sets 3 1;set a;set b;");
        for (int number = 0; number < 3; number++) {
            Check.same("of a set without events", x.since(0, number), -1);
        }
        x.add(0, 2);
        Check.same("its only event", x.since(0, 2), 1);
        x.add(1, 2);
        Check.same("an event of another set", x.since(0, 2), 1);
        x.add(0, 0);
        Check.same("a member whose coming is forgotten", x.since(0, 2), -1);
        x.remove(0, 2);
        x.add(0, 1);
        Check.same("no member, whose removal is forgotten", x.since(0, 2), -1);
    }

    private static void fullestLeast() {
        Check.sentence("Promise 16", "Returns the stamp, from the first stamp of the set to the clock, of several the least.");
        TwinSets x = Check.sets("sets 9 9;set a;set b;");
        Check.same("of a new set", x.fullest(0), 0);
        x.add(1, 0);
        x.clear(0);
        Check.same("of a set without events, the clock is 1", x.fullest(0), 0);
        x.add(0, 1);
        Check.same("at the clock", x.fullest(0), 2);
        x.add(1, 1);
        Check.same("an event of another set", x.fullest(0), 2);
        x.remove(0, 1);
        Check.same("behind a removal", x.fullest(0), 2);
        x.add(0, 2);
        Check.same("as many again", x.fullest(0), 2);
        x.add(0, 3);
        Check.same("one more", x.fullest(0), 6);
        x.clear(0);
        Check.same("behind clear", x.fullest(0), 6);
        TwinSets y = Check.sets("sets 64 60;set a;");
        fill(y, 0, 64);
        Check.same("a full set", y.fullest(0), 64);
    }

    private static void fullestRange() {
        Check.sentence("Promise 16", "from the first stamp of the set to the clock");
        TwinSets x = Check.sets("sets 9 2;set a;add a 0 1 2;remove a 2 1;");
        // At 3 there were three, and the event 3 is forgotten.
        Check.same("at the first stamp", x.fullest(0), 3);
        x.remove(0, 0);
        Check.same("at a later first stamp", x.fullest(0), 4);
        x.add(0, 5);
        Check.same("first stamp 5: one, none, one", x.fullest(0), 5);
        x.add(0, 6);
        Check.same("first stamp 6: none, one, two", x.fullest(0), 8);
        x.clear(0);
        x.clear(0);
        Check.same("first stamp 7: one, two, none", x.fullest(0), 8);
        x.add(0, 1);
        Check.same("first stamp 8: two, none, one", x.fullest(0), 8);
        x.remove(0, 1);
        Check.same("first stamp 9: none, one, none", x.fullest(0), 10);
        x.add(0, 1);
        Check.same("first stamp 10: one, none, one", x.fullest(0), 10);
        TwinSets y = Check.sets("sets 9 1;set a;set b;");
        y.add(1, 0);
        y.add(0, 1);
        y.remove(0, 1);
        Check.same("horizon 1: the first stamp", y.fullest(0), 2);
        y.add(0, 1);
        Check.same("horizon 1: the clock", y.fullest(0), 4);
    }
}
