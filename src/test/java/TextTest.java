/** Promises 1 to 7: a new object, append, parse, errorPosition, size, find, marked. */
public final class TextTest {
    public static void main(String[] args) {
        newObject();
        append();
        parseFine();
        parseNothingChanges();
        parseManyTimes();
        parseRange();
        parseCutsTokens();
        errors();
        limits();
        statements();
        size();
        find();
        marked();
        Check.end();
    }

    private static void newObject() {
        TwinSets x = new TwinSets();
        int[] due = {0, 1, 1, 0, 0, 0, 0, 0};
        for (int what = 0; what < 8; what++) {
            Check.same("new: size(" + what + ")", x.size(what), due[what]);
        }
        Check.same("new: errorPosition()", x.errorPosition(), -1);
        Check.same("new: marked(0)", x.marked(0), -1);
        Check.same("new: find()", x.find(), -1);
        Check.same("new: undo()", x.undo(), -1);
        Check.throwsIndex("new: set(0, 0)", () -> x.set(0, 0));
        Check.throwsIndex("new: cursor(0, 0)", () -> x.cursor(0, 0));
        Check.throwsState("new: restoreSnapshot(0)", () -> x.restoreSnapshot(0));
        Check.throwsArgument("new: parse(1)", () -> x.parse(1));
        Check.same("new: append", x.append(0, 0, 0, 0, 0), 20);
    }

    private static void append() {
        TwinSets x = new TwinSets();
        for (int i = 1; i <= 30; i++) {
            Check.same("append, time " + i, x.append(0x20202020, 0x20202020, 0x20202020, 0x20202020, 0x20202020), 20 * i);
        }
        Check.same("append beyond 600", x.append(0, 0, 0, 0, 0), -1);
        Check.throwsArgument("parse(601)", () -> x.parse(601));
        Check.same("parse(600) of spaces", x.parse(600), 1);
        Check.same("position behind 600 spaces", x.errorPosition(), 600);
        // "sets" " 10 " "10;s" "et m" "any;": the most significant byte first
        Check.same("append", x.append(0x73657473, 0x20313020, 0x31303B73, 0x6574206D, 0x616E793B), 20);
        Check.same("parse(20)", x.parse(20), 0);
        Check.same("universe", x.size(1), 10);
        Check.same("find many", Check.find(x, "many"), 0);
        // Bytes above 127 are bytes, too.
        x.append(0x73657473, 0x20312031, 0x3BFFFFFF, -1, -1);
        Check.same("parse with byte 255", x.parse(10), 1);
        Check.same("position of byte 255", x.errorPosition(), 9);
    }

    private static void parseFine() {
        TwinSets x = Check.sets("sets 8 20;set a;set b;add a 3 5 1;add b 5;mark;");
        x.open(0, false);
        x.saveSnapshot(0);
        x.saveSnapshot(1);
        x.add(0, 7);
        Check.same("parse anew", Check.parse(x, "sets\n64\n60 ; \n\n set b"), 1);
        Check.same("parse anew", Check.parse(x, "  sets\n64\n60 ; \n\n set b ;set sets;set set;"), 0);
        Check.same("errorPosition", x.errorPosition(), -1);
        int[] due = {3, 64, 60, 0, 0, 0, 0, 0};
        for (int what = 0; what < 8; what++) {
            Check.same("anew: size(" + what + ")", x.size(what), due[what]);
        }
        Check.same("anew: undo()", x.undo(), -1);
        Check.throwsState("anew: restoreSnapshot(0)", () -> x.restoreSnapshot(0));
        Check.throwsState("anew: restoreSnapshot(1)", () -> x.restoreSnapshot(1));
        Check.throwsIndex("anew: cursor(0, 0)", () -> x.cursor(0, 0));
        Check.throwsArgument("the buffer is empty after a success", () -> x.parse(1));
        Check.same("find a", Check.find(x, "a"), -1);
        Check.same("find b", Check.find(x, "b"), 0);
        Check.same("find sets", Check.find(x, "sets"), 1);
        Check.same("find set", Check.find(x, "set"), 2);
        for (int cell = 0; cell < 64; cell++) {
            Check.same("anew: cell(0, " + cell + ", false)", x.cell(0, cell, false), 0);
            Check.same("anew: cell(0, " + cell + ", true)", x.cell(0, cell, true), 0);
        }
        int[] set = {0, 0, 0, 0, 0};
        for (int what = 0; what < 5; what++) {
            Check.same("anew: set(0, " + what + ")", x.set(0, what), set[what]);
        }
    }

    private static void parseNothingChanges() {
        TwinSets x = Check.sets("sets 8 20;set a;add a 3 5 1;mark;");
        x.open(0, true);
        x.saveSnapshot(1);
        x.add(0, 7);
        Check.same("parse with an error late", Check.parse(x, "sets 2 2;set b;add b 0 1;mark;add b 2;"), 3);
        Check.same("errorPosition", x.errorPosition(), 36);
        int[] due = {1, 8, 20, 4, 1, 1, 8, 2};
        for (int what = 0; what < 8; what++) {
            Check.same("after an error: size(" + what + ")", x.size(what), due[what]);
        }
        Check.members("a parse with an error", x, 0, "3 5 1 7");
        Check.throwsArgument("the buffer is empty after an error", () -> x.parse(1));
        Check.same("errorPosition stays when parse throws", x.errorPosition(), 36);
        Check.same("undo after an error", x.undo(), 1);
        Check.members("undo", x, 0, "3 5 1");
        Check.same("restoreSnapshot after an error", x.restoreSnapshot(1), 3);
        Check.same("parse without an error", Check.parse(x, "sets 1 1;"), 0);
        Check.same("errorPosition", x.errorPosition(), -1);
    }

    private static void parseManyTimes() {
        TwinSets x = new TwinSets();
        String[] fine = {"sets 8 2;set a;set b;add a 3 5 1 0;mark;clear a;add b 7 6 5;", "sets 9 9;set b;set c;add c 4;"};
        String[] wrong = {"", "sets", "set 1 1;", "sets 0 1;", "sets 5 0;", "sets 5 5", "sets 3 3;set d;add d 2;mark;x"};
        for (int i = 0; i < 7; i++) {
            // One between the two, so that each text follows each.
            Check.same("parse of the one between", i % 3 == 0 ? Check.parse(x, "sets 1 1;") : 0, 0);
            String text = fine[i % 2];
            Check.same("parse, time " + i, Check.parse(x, text), 0);
            Check.same("as a new one, time " + i, Look.all(x).equals(Look.all(Check.sets(text))), true);
            x.open(0, false);
            x.open(1, false);
            x.open(1, true);
            x.step(1);
            x.removeMet(1);
            x.mark();
            String before = Look.all(x);
            for (String bad : wrong) {
                Check.same("parse of \"" + bad + "\"", Check.parse(x, bad) != 0, true);
                Check.same("nothing changes by \"" + bad + "\"", Look.all(x).equals(before), true);
            }
            Check.same("find d", Check.find(x, "d"), -1);
        }
    }

    private static void parseCutsTokens() {
        TwinSets x = new TwinSets();
        Check.append(x, "sets 1 1;set abcdefghij;");
        Check.same("a word that is cut", x.parse(21), 1);
        Check.same("errorPosition", x.errorPosition(), 21);
        Check.append(x, "sets 1 1000;");
        Check.same("a number that is cut", x.parse(10), 3);
        Check.same("errorPosition", x.errorPosition(), 7);
        Check.append(x, "sets 1 1 ;");
        Check.same("spaces that are cut", x.parse(8), 1);
        Check.same("errorPosition", x.errorPosition(), 8);
    }

    private static void parseRange() {
        TwinSets x = new TwinSets();
        Check.append(x, "sets 5 5;");
        Check.throwsArgument("parse(-1)", () -> x.parse(-1));
        Check.throwsArgument("parse(21)", () -> x.parse(21));
        Check.throwsArgument("parse(least)", () -> x.parse(Integer.MIN_VALUE));
        Check.throwsArgument("parse(greatest)", () -> x.parse(Integer.MAX_VALUE));
        Check.same("the buffer stays when parse throws", x.parse(20), 0);
        Check.same("universe", x.size(1), 5);
        Check.append(x, "sets 6 7; what stands behind it");
        Check.same("parse(9) of 40", x.parse(9), 0);
        Check.same("horizon", x.size(2), 7);
        Check.same("parse(0)", x.parse(0), 1);
        Check.same("position", x.errorPosition(), 0);
    }

    private static void errors() {
        Check.error("", 1, 0);
        Check.error("   ", 1, 3);
        Check.error("set", 1, 0);
        Check.error("Sets 1 1;", 1, 0);
        Check.error("sets", 1, 4);
        Check.error("sets ", 1, 5);
        Check.error("sets 1", 1, 6);
        Check.error("sets 1 1", 1, 8);
        Check.error("sets ;", 1, 5);
        Check.error("sets a 1;", 1, 5);
        Check.error("sets 1 a;", 1, 7);
        Check.error("sets 1 1 1;", 1, 9);
        Check.error("sets 1 1;;", 1, 9);
        Check.error("sets 1 1;4;", 1, 9);
        Check.error("sets 1 1;put a;", 1, 9);
        Check.error("sets 1 1;sets 1 1;", 1, 9);
        Check.error("sets 1 1;\tset a;", 1, 9);
        Check.error("sets 1 1;\rset a;", 1, 9);
        Check.error("sets 1 1;set;", 1, 12);
        Check.error("sets 1 1;set 1;", 1, 13);
        Check.error("sets 1 1;set a", 1, 14);
        Check.error("sets 1 1;set a  ", 1, 16);
        Check.error("sets 1 1;set a b;", 1, 15);
        Check.error("sets 1 1;set a,", 1, 14);
        Check.error("sets 1 1;set a{", 1, 14);
        Check.error("sets 1 1;set a`", 1, 14);
        Check.error("sets 1 1;set aZ;", 1, 14);
        Check.error("sets 1 1;set abcdefghi;", 1, 13);
        Check.error("sets 1 1;abcdefghi a;", 1, 9);
        Check.error("sets 1 1;set a;add a;", 1, 20);
        Check.error("sets 1 1;set a;add a", 1, 20);
        Check.error("sets 1 1;set a;add a 0", 1, 22);
        Check.error("sets 1 1;set a;add a 0 a;", 1, 23);
        Check.error("sets 1 1;set a;add 0;", 1, 19);
        Check.error("sets 1 1;set a;add ;", 1, 19);
        Check.error("sets 1 1;set a;remove a;", 1, 23);
        Check.error("sets 1 1;set a;clear;", 1, 20);
        Check.error("sets 1 1;set a;clear a 0;", 1, 23);
        Check.error("sets 1 1;set a;mark a;", 1, 20);
        Check.error("sets 1 1;mark", 1, 13);
        Check.error("sets 0001 1;", 1, 5);
        Check.error("sets 1 1000;", 1, 7);
        Check.error("sets 1 1;set a;add a 0000;", 1, 21);
        Check.error("sets 1 1/", 1, 8);
        Check.error("sets 1 1:", 1, 8);
        Check.error("sets 1 1;set a;set a;", 2, 19);
        Check.error("sets 1 1;set add;set b;set add;", 2, 27);
        Check.error("sets 0 1;", 3, 5);
        Check.error("sets 65 1;", 3, 5);
        Check.error("sets 999 1;", 3, 5);
        Check.error("sets 1 0;", 3, 7);
        Check.error("sets 1 61;", 3, 7);
        Check.error("sets 0 x;", 3, 5);
        Check.error("sets 1 1;set a;add a 1;", 3, 21);
        Check.error("sets 8 1;set a;add a 7 0 8", 3, 25);
        Check.error("sets 8 1;set a;remove a 999;", 3, 24);
        Check.error("sets 1 1;add a 0;", 4, 13);
        Check.error("sets 1 1;set a;remove b 9;", 4, 22);
        Check.error("sets 1 1;set a;clear aa;", 4, 21);
        Check.error("sets 1 1;set ab;clear a;", 4, 22);
        Check.error("sets 1 1;set b;clear a;set a;", 4, 21);
        Check.error("sets 1 1;clear abcdefghi;", 1, 15);
        Check.error("sets 1 1;set a;set b;set c;set d;set e;set f;", 5, 39);
        Check.error("sets 1 1;set a;set b;set c;set d;set e;set", 5, 39);
        Check.error("sets 1 1;set a;set b;set c;set d;set e; set a;", 5, 40);
        Check.error("sets 1 1;mark;mark;mark;mark;mark;mark;mark;mark;mark;", 5, 49);
    }

    private static void limits() {
        TwinSets x = Check.sets("sets 64 60;set a;set b;set c;set d;set abcdefgh;mark;mark;mark;mark;mark;mark;mark;mark;add a 63 063;");
        Check.same("five sets", x.size(0), 5);
        Check.same("eight marks", x.size(4), 8);
        Check.same("find the last", Check.find(x, "abcdefgh"), 4);
        Check.members("add a 63 063", x, 0, "63");
        x = Check.sets("sets 001 01;set z;");
        Check.same("universe 001", x.size(1), 1);
        x = Check.sets("sets8 9;set a;add a0 1;");
        Check.members("runs that touch", x, 0, "0 1");
        StringBuilder text = new StringBuilder("sets 64 60;set a;add a");
        while (text.length() < 597) {
            text.append(" 5");
        }
        text.append(';');
        while (text.length() < 600) {
            text.append('\n');
        }
        x = Check.sets(text.toString());
        Check.members("a text of 600 bytes", x, 0, "5");
        Check.same("its clock", x.size(3), 1);
    }

    private static void statements() {
        TwinSets x = Check.sets("sets 9 3;set a;set b;add a 1 2 3 2;mark;remove a 1 8;add b 4;clear a;mark;clear a;add b 7 4 0;mark;");
        // a: 1 2 3 come (1 to 3), 1 is removed (4), b: 4 comes (5), a is cleared (6), b: 7 and 0 come (7, 8)
        Check.same("clock", x.size(3), 8);
        Check.same("cost", x.size(6), 3 * 2 + 2 + 2 + 1 + 1 + 2 * 2);
        Check.same("marks", x.size(4), 3);
        Check.same("marked(0)", x.marked(0), 3);
        Check.same("marked(1)", x.marked(1), 6);
        Check.same("marked(2)", x.marked(2), 8);
        Check.same("generation", x.set(0, 1), 2);
        Check.same("first stamp", x.set(0, 2), 2);
        Check.same("events", x.set(0, 3), 3);
        Check.members("the statements", x, 0, "");
        Check.members("the statements", x, 1, "4 7 0");
        Check.same("cell of a number that went", x.cell(0, 3, true), 0);
        Check.same("undo right after a parse", x.undo(), -1);
    }

    private static void size() {
        TwinSets x = Check.sets("sets 9 3;set a;set b;add a 1 2;mark;");
        int zero = x.open(0, false);
        x.open(1, false);
        x.step(1);
        int[] due = {2, 9, 3, 2, 1, 2, 4, 3};
        for (int what = 0; what < 8; what++) {
            Check.same("size(" + what + ")", x.size(what), due[what]);
        }
        x.close(zero);
        Check.same("size(5) after close", x.size(5), 1);
        for (int i = 0; i < 20; i++) {
            x.add(0, 1);
        }
        Check.same("size(7) after many changes", x.size(7), 10);
        Check.throwsArgument("size(8)", () -> x.size(8));
        Check.throwsArgument("size(-1)", () -> x.size(-1));
        Check.throwsArgument("size(greatest)", () -> x.size(Integer.MAX_VALUE));
        Check.throwsArgument("size(least)", () -> x.size(Integer.MIN_VALUE));
    }

    private static void find() {
        TwinSets x = Check.sets("sets 9 3;set a;set ab;set abcdefgh;");
        Check.same("find a", Check.find(x, "a"), 0);
        Check.same("the buffer is empty then", x.find(), -1);
        Check.throwsArgument("the buffer is empty then: parse(1)", () -> x.parse(1));
        Check.same("find ab", Check.find(x, "ab"), 1);
        Check.same("find abcdefgh", Check.find(x, "abcdefgh"), 2);
        Check.same("find with many spaces", Check.find(x, "ab                                      "), 1);
        Check.same("find spaces", Check.find(x, "    "), -1);
        Check.same("find with a space before", Check.find(x, " a"), -1);
        Check.same("find with a line feed behind", Check.find(x, "a\n"), -1);
        Check.same("find with a line feed last", Check.find(x, "a                  \n"), -1);
        Check.same("find two words", Check.find(x, "a ab"), -1);
        Check.same("find a semicolon behind", Check.find(x, "a;"), -1);
        Check.same("find a longer word", Check.find(x, "abc"), -1);
        Check.same("find a word of nine", Check.find(x, "abcdefghi"), -1);
        Check.same("find upper case", Check.find(x, "A"), -1);
        Check.same("find byte 0 behind", Check.find(x, "a\0"), -1);
        Check.append(x, "b");
        Check.same("nothing found", x.find(), -1);
        Check.same("the buffer is empty then, too", x.append(0, 0, 0, 0, 0), 20);
    }

    private static void marked() {
        TwinSets x = Check.sets("sets 9 3;set a;mark;add a 1;mark;");
        Check.same("marked(0)", x.marked(0), 0);
        Check.same("marked(1)", x.marked(1), 1);
        Check.same("marked(2)", x.marked(2), -1);
        Check.same("marked(8)", x.marked(8), -1);
        Check.same("marked(-1)", x.marked(-1), -1);
        Check.same("marked(greatest)", x.marked(Integer.MAX_VALUE), -1);
        Check.same("marked(least)", x.marked(Integer.MIN_VALUE), -1);
    }
}
