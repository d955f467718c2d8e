/** The boundary cases of the text and of promises 1 to 7: a method for each sentence of the document. */
public final class TextEdgesTest {
    private static final int SPACES = 0x20202020;

    public static void main(String[] args) {
        textOf600Bytes();
        separators();
        tokensOfOneKind();
        words();
        numbers();
        longerRuns();
        otherBytes();
        tokensInTheirOrder();
        statements();
        anyWordIsAName();
        earlierSets();
        universe();
        horizon();
        members();
        fiveSets();
        eightMarks();
        doneAtThatPoint();
        codeOne();
        codeTwo();
        codeThree();
        codeFour();
        codeFive();
        smallestPosition();
        smallestCode();
        firstByteOfItsToken();
        textThatEndsTooEarly();
        newObject();
        append20Bytes();
        appendBytes();
        appendBeyond600();
        parseFirstBytes();
        parseAllBytes();
        parseReplaces();
        parseErrorChangesNothing();
        parseEmptiesTheBuffer();
        parseLength();
        errorPosition();
        errorPositionNone();
        sizesNow();
        cursorsThatThereAre();
        sizeRange();
        findEachName();
        findSpaces();
        findAnythingElse();
        findEmptiesTheBuffer();
        markedThen();
        markedNone();
        Check.end();
    }

    // ---- the terms: tokens

    /** A text of 600 bytes: spaces stand between the two parts. */
    private static String filled(String head, String tail) {
        StringBuilder text = new StringBuilder(head);
        while (text.length() < 600 - tail.length()) {
            text.append(' ');
        }
        return text.append(tail).toString();
    }

    private static void textOf600Bytes() {
        Check.sentence("Terms", "Sets are described by a text of at most 600 bytes.");
        Check.error(filled("sets 1 1;", ""), 0, -1);
        Check.error(filled("sets 1 1;set a", ";"), 0, -1);
        Check.error(filled("sets 1 1", "; mark;"), 0, -1);
        Check.error(filled("sets 1 1", ""), 1, 600);
        Check.error(filled("sets 1 1;", "mark"), 1, 600);
        Check.error(filled("sets 1 1;", "set abcdefgh"), 1, 600);
        Check.error(filled("sets 1 1;", "abcdefgh"), 1, 592);
        Check.error(filled("sets 1 1;set abcdefgh;set", "abcdefgh"), 2, 592);
        Check.error(filled("sets 1 1;set abcdefgh;clear", "abcdefgh"), 1, 600);
        Check.error(filled("sets 1 1;", "clear b"), 4, 599);
        Check.error(filled("sets 1 1;set a;add a 0", "1"), 3, 599);
        Check.error(filled("sets 1 1;", "!"), 1, 599);
        StringBuilder text = new StringBuilder("sets 64 60;set a;add a");
        for (int i = 0; text.length() <= 590; i++) {
            text.append(i % 2 == 0 ? " 63" : " 0");
        }
        TwinSets x = Check.sets(filled(text.toString(), ";"));
        Check.members("a text of 600 bytes", x, 0, "63 0");
    }

    private static boolean isSeparator(int b) {
        return b == 32 || b == 10;
    }

    private static boolean isLetter(int b) {
        return b >= 'a' && b <= 'z';
    }

    private static boolean isDigit(int b) {
        return b >= '0' && b <= '9';
    }

    private static void separators() {
        Check.sentence("Terms", "Spaces (byte 32) and line feeds (byte 10) separate tokens and are otherwise ignored.");
        for (int b = 0; b < 256; b++) {
            boolean isFine = isSeparator(b) || isDigit(b);
            Check.error("sets 1 1" + (char) b + ";", isFine ? 0 : 1, isFine ? -1 : b == ';' ? 9 : 8);
        }
        Check.error("\n \n sets\n1\n \n1 \n;\n\nset\na\n;add\na\n0\n\n0;\n", 0, -1);
        Check.error("se ts 1 1;", 1, 0);
        Check.error("sets 1 6 1;", 1, 9);
        Check.error("sets 1 0 6;", 3, 7);
        Check.error("sets 1 1;set a b;", 1, 15);
    }

    private static void tokensOfOneKind() {
        Check.sentence("Terms", "A token is a word (a maximal run of letters a to z, 1 to 8 letters), "
                + "a number (a maximal run of digits, 1 to 3 digits) or a semicolon.");
        for (int b = 0; b < 256; b++) {
            Check.error("sets 1 1;set " + (char) b + ";", isLetter(b) ? 0 : 1, isLetter(b) ? -1 : isSeparator(b) ? 14 : 13);
            boolean isFine = isLetter(b) || isSeparator(b);
            Check.error("sets 1 1;set a" + (char) b + ";", isFine ? 0 : 1, isFine ? -1 : b == ';' ? 15 : 14);
        }
        for (int b = 0; b < 256; b++) {
            int code = !isDigit(b) ? 1 : b == '0' ? 3 : 0;
            Check.error("sets " + (char) b + " 1;", code, code == 0 ? -1 : isSeparator(b) ? 8 : 5);
        }
        Check.error("sets 1 1;set a;;", 1, 15);
    }

    private static void words() {
        Check.sentence("Terms", "a word (a maximal run of letters a to z, 1 to 8 letters)");
        TwinSets x = Check.sets("sets 1 1;set a;set z;set abcdefgh;set zzzzzzzz;");
        Check.same("find a", Check.find(x, "a"), 0);
        Check.same("find z", Check.find(x, "z"), 1);
        Check.same("find abcdefgh", Check.find(x, "abcdefgh"), 2);
        Check.same("find zzzzzzzz", Check.find(x, "zzzzzzzz"), 3);
        Check.error("sets 1 1;set abcdefghi;", 1, 13);
    }

    private static void numbers() {
        Check.sentence("Terms", "a number (a maximal run of digits, 1 to 3 digits)");
        TwinSets x = Check.sets("sets 064 009;set a;add a 9 09 009 063 00 000;");
        Check.same("universe 064", x.size(1), 64);
        Check.same("horizon 009", x.size(2), 9);
        Check.members("numbers of 1 to 3 digits", x, 0, "9 63 0");
        Check.error("sets 999 1;", 3, 5);
        Check.error("sets 1000 1;", 1, 5);
        Check.error("sets 0001 1;", 1, 5);
        Check.error("sets 1 0001;", 1, 7);
        Check.error("sets 1 1;set a;add a 0000;", 1, 21);
    }

    private static String run(char sign, int length) {
        return String.valueOf(sign).repeat(length);
    }

    private static void longerRuns() {
        Check.sentence("Terms", "A longer run, and any other byte, is an invalid token.");
        for (int length : new int[] {9, 10, 16, 17, 500}) {
            Check.error("sets 1 1;set " + run('a', length) + ";", 1, 13);
            Check.error("sets 1 1;" + run('q', length) + " a;", 1, 9);
            Check.error(run('s', length) + " 1 1;", 1, 0);
        }
        for (int length : new int[] {4, 5, 10, 11, 20, 500}) {
            Check.error("sets " + run('9', length) + " 1;", 1, 5);
            Check.error("sets " + run('0', length) + " 1;", 1, 5);
        }
        // These are 1 in 32 and in 64 bits.
        Check.error("sets 4294967297 1;", 1, 5);
        Check.error("sets 1 18446744073709551617;", 1, 7);
        // The first eight letters are a name, the first four letters a word of the grammar.
        Check.error("sets 1 1;set abcdefgh;clear abcdefghi;", 1, 28);
        Check.error("sets 1 1;markmarkm;", 1, 9);
    }

    private static void otherBytes() {
        Check.sentence("Terms", "any other byte, is an invalid token");
        for (int b = 0; b < 256; b++) {
            if (!isSeparator(b) && !isLetter(b) && !isDigit(b) && b != ';') {
                Check.error((char) b + "sets 1 1;", 1, 0);
                Check.error("sets" + (char) b + "1 1;", 1, 4);
                Check.error("sets 1" + (char) b + "1;", 1, 6);
                Check.error("sets 1 1;" + (char) b, 1, 9);
                Check.error("sets 1 1;set a;add a 0" + (char) b + "0;", 1, 22);
            }
        }
    }

    // ---- the terms: the grammar

    private static void tokensInTheirOrder() {
        Check.sentence("Terms", "sets = \"sets\" universe horizon \";\" { statement \";\" }");
        String[] tokens = "sets 9 8 ; set a ; add a 1 2 ; remove a 1 2 ; clear a ; mark ;".split(" ");
        StringBuilder text = new StringBuilder();
        for (int i = 0; i < tokens.length; i++) {
            boolean isWhole = i > 0 && tokens[i - 1].equals(";");
            Check.error(text.toString(), isWhole ? 0 : 1, isWhole ? -1 : text.length());
            Check.error(text + "\n \n", isWhole ? 0 : 1, isWhole ? -1 : text.length() + 3);
            // A semicolon is allowed in the place of a second member.
            String other = tokens[i].matches("[;2]") ? "put" : ";";
            Check.error(text + other, 1, text.length());
            text.append(tokens[i]).append(' ');
        }
        Check.error(text.toString(), 0, -1);
        Check.error("sets 1 1;", 0, -1);
        Check.error("set 1 1;", 1, 0);
        Check.error("setss 1 1;", 1, 0);
        Check.error("sets 1 1;sets 1 1;", 1, 9);
    }

    private static void statements() {
        Check.sentence("Terms", "statement = \"set\" name | \"add\" set member { member } "
                + "| \"remove\" set member { member } | \"clear\" set | \"mark\"");
        Check.error("sets 5 5;set a;add a 0;remove a 0;clear a;mark;", 0, -1);
        Check.error("sets 5 5;set a;add a 0 1 2 3 4;remove a 4 3 2 1 0;", 0, -1);
        Check.error("sets 5 5;set a;add a;", 1, 20);
        Check.error("sets 5 5;set a;remove a;", 1, 23);
        Check.error("sets 5 5;set a;add a 0 b;", 1, 23);
        Check.error("sets 5 5;set a;add a 0 a 1;", 1, 23);
        Check.error("sets 5 5;set a;clear a 0;", 1, 23);
        Check.error("sets 5 5;set a;mark 0;", 1, 20);
        Check.error("sets 5 5;set a 0;", 1, 15);
        for (String word : new String[] {"s", "se", "ad", "adds", "remov", "removes", "clea", "clears", "mar", "marks", "sets"}) {
            Check.error("sets 5 5;set a;" + word + " a 0;", 1, 15);
        }
    }

    private static void anyWordIsAName() {
        Check.sentence("Terms", "name is any word");
        TwinSets x = Check.sets("sets 5 9;set set;set add;set remove;set clear;set mark;"
                + "add set 0 1;add add 2;add remove 3;remove set 1;add clear 4;clear clear;add mark 1;mark;");
        Check.same("find set", Check.find(x, "set"), 0);
        Check.same("find mark", Check.find(x, "mark"), 4);
        Check.members("add set 0 1;remove set 1;", x, 0, "0");
        Check.members("add add 2;", x, 1, "2");
        Check.members("add remove 3;", x, 2, "3");
        Check.members("clear clear;", x, 3, "");
        Check.members("add mark 1;", x, 4, "1");
        Check.error("sets 5 9;set sets;clear sets;", 0, -1);
    }

    private static void earlierSets() {
        Check.sentence("Terms", "set a word that is the name of an earlier set");
        Check.error("sets 5 9;clear a;", 4, 15);
        Check.error("sets 5 9;add a 0;set a;", 4, 13);
        Check.error("sets 5 9;set a;remove b 0;set b;", 4, 22);
        Check.error("sets 5 9;set ab;clear a;", 4, 22);
        Check.error("sets 5 9;set ab;clear abc;", 4, 22);
        Check.error("sets 5 9;set ab;clear ba;", 4, 22);
        TwinSets x = Check.sets("sets 5 9;set ab;set a;add a 0;set abc;add abc 1;add ab 2;");
        Check.members("the set ab", x, 0, "2");
        Check.members("the set a", x, 1, "0");
        Check.members("the set abc", x, 2, "1");
        // A set of an earlier text is none of this one.
        Check.same("parse of a later text", Check.parse(x, "sets 5 9;set b;clear ab;"), 4);
    }

    private static void universe() {
        Check.sentence("Terms", "universe is 1 to 64");
        for (int universe : new int[] {1, 2, 63, 64}) {
            TwinSets x = Check.sets("sets " + universe + " 1;");
            Check.same("universe " + universe, x.size(1), universe);
        }
        for (int universe : new int[] {0, 65, 128, 999}) {
            Check.error("sets " + universe + " 1;", 3, 5);
        }
    }

    private static void horizon() {
        Check.sentence("Terms", "horizon 1 to 60");
        for (int horizon : new int[] {1, 2, 59, 60}) {
            TwinSets x = Check.sets("sets 1 " + horizon + ";");
            Check.same("horizon " + horizon, x.size(2), horizon);
        }
        for (int horizon : new int[] {0, 61, 64, 999}) {
            Check.error("sets 1 " + horizon + ";", 3, 7);
        }
    }

    private static void members() {
        Check.sentence("Terms", "member 0 to universe - 1");
        for (int universe : new int[] {1, 2, 9, 63, 64}) {
            String head = "sets " + universe + " 60;set a;";
            int at = head.length();
            for (String word : new String[] {"add a ", "remove a "}) {
                Check.error(head + word + "0;", 0, -1);
                Check.error(head + word + (universe - 1) + ";", 0, -1);
                Check.error(head + word + universe + ";", 3, at + word.length());
                Check.error(head + word + "0 " + universe + ";", 3, at + word.length() + 2);
                Check.error(head + word + "999;", 3, at + word.length());
            }
        }
    }

    private static void fiveSets() {
        Check.sentence("Terms", "There are at most 5 sets and 8 marks.");
        TwinSets x = Check.sets("sets 2 9;set a;set b;set c;set d;set e;add e 1;add a 0;");
        Check.same("five sets", x.size(0), 5);
        Check.same("find e", Check.find(x, "e"), 4);
        Check.members("the fifth set", x, 4, "1");
        Check.throwsIndex("set(5, 0)", () -> x.set(5, 0));
        Check.same("parse of a sixth", Check.parse(x, "sets 2 9;set a;set b;set c;set d;set e;set f;"), 5);
        Check.same("the sets behind it", x.size(0), 5);
    }

    private static void eightMarks() {
        Check.sentence("Terms", "There are at most 5 sets and 8 marks.");
        TwinSets x = Check.sets("sets 2 9;set a;mark;mark;mark;add a 1;mark;mark;mark;mark;add a 0;mark;");
        Check.same("eight marks", x.size(4), 8);
        Check.same("the eighth", x.marked(7), 2);
        Check.throwsState("a ninth by the method", () -> x.mark());
        Check.error("sets 2 9;mark;mark;mark;mark;mark;mark;mark;mark;mark;", 5, 49);
    }

    private static void doneAtThatPoint() {
        Check.sentence("Terms", "\"add\", \"remove\" and \"clear\" are done at that point of the text as by the methods, "
                + "one member after the other; \"mark\" likewise.");
        TwinSets x = Check.sets("sets 5 4;set a;mark;clear a;mark;remove a 3;mark;add a 3 0 3 4;mark;"
                + "remove a 3 2 3;mark;clear a;mark;add a 2 1;mark;");
        TwinSets y = Check.sets("sets 5 4;set a;");
        y.mark();
        y.clear(0);
        y.mark();
        y.remove(0, 3);
        y.mark();
        for (int number : new int[] {3, 0, 3, 4}) {
            y.add(0, number);
        }
        y.mark();
        for (int number : new int[] {3, 2, 3}) {
            y.remove(0, number);
        }
        y.mark();
        y.clear(0);
        y.mark();
        y.add(0, 2);
        y.add(0, 1);
        y.mark();
        Check.same("as by the methods", Look.all(x), Look.all(y));
        int[] clocks = {0, 0, 0, 3, 4, 5, 7};
        for (int mark = 0; mark < 7; mark++) {
            Check.same("marked(" + mark + ")", x.marked(mark), clocks[mark]);
        }
        // Three came (6), 4 moved to the place of 3 (2), cleared twice (2), two came (4).
        Check.same("cost", x.size(6), 14);
        Check.same("first stamp", x.set(0, 2), 3);
    }

    // ---- the terms: parse errors

    private static void codeOne() {
        Check.sentence("Terms", "1: an invalid token, a token that the grammar does not allow at this place, "
                + "or a text that ends too early.");
        Check.error("sets 1 1;#", 1, 9);
        Check.error("sets 1 1;set a;a;", 1, 15);
        Check.error("sets 1 1;set a;0;", 1, 15);
        Check.error("sets 1 1;set a;add", 1, 18);
        Check.error("", 1, 0);
    }

    private static void codeTwo() {
        Check.sentence("Terms", "2: a name that an earlier set has.");
        Check.error("sets 1 1;set a;set a;", 2, 19);
        Check.error("sets 1 1;set a;set b;set c;set d;set a;", 2, 37);
        Check.error("sets 1 1;set a;set b;set c;set d;set d", 2, 37);
        Check.error("sets 1 1;set abcdefgh;set abcdefgi;set abcdefg;set abcdefgh;", 2, 51);
    }

    private static void codeThree() {
        Check.sentence("Terms", "3: a number out of its range.");
        Check.error("sets 0 1;", 3, 5);
        Check.error("sets 1 0;", 3, 7);
        Check.error("sets 65", 3, 5);
        Check.error("sets 64 61", 3, 8);
        Check.error("sets 64 60;set a;add a 64", 3, 23);
    }

    private static void codeFour() {
        Check.sentence("Terms", "4: a set that is no earlier one.");
        Check.error("sets 1 1;add a 0;", 4, 13);
        Check.error("sets 1 1;remove set 0;", 4, 16);
        Check.error("sets 1 1;set a;clear b", 4, 21);
    }

    private static void codeFive() {
        Check.sentence("Terms", "5: the first word of the statement of a sixth set or a ninth mark.");
        String sets = "sets 2 2;set a;set b;set c;set d;set e;";
        String marks = "mark;mark;mark;mark;mark;mark;mark;mark;";
        Check.error(sets + marks, 0, -1);
        Check.error(sets + "  set f;", 5, sets.length() + 2);
        Check.error(sets + marks + "set f;", 5, sets.length() + marks.length());
        Check.error(sets + marks + "\nmark;", 5, sets.length() + marks.length() + 1);
        Check.error("sets 2 2;" + marks + sets.substring(9) + "mark;", 5, sets.length() + marks.length());
        Check.error("sets 2 2;" + marks + "mark", 5, 9 + marks.length());
        // What is behind that word does not count, nor does a word that is no first one.
        Check.error(sets + "set", 5, sets.length());
        Check.error(sets + "set a;", 5, sets.length());
        Check.error(sets + "set 0;", 5, sets.length());
        Check.error(sets + "set abcdefghi;", 5, sets.length());
        Check.error(sets + "clear set;", 4, sets.length() + 6);
        Check.error(sets + marks + "clear mark;", 4, sets.length() + marks.length() + 6);
        Check.error(sets + marks + "clear a set;", 1, sets.length() + marks.length() + 8);
    }

    private static void smallestPosition() {
        Check.sentence("Terms", "The error with the smallest position is reported.");
        Check.error("sets 0 0;", 3, 5);
        Check.error("sets 1 0;$", 3, 7);
        Check.error("sets 0 1", 3, 5);
        Check.error("sets 1 1;set a;set a;clear b;", 2, 19);
        Check.error("sets 1 1;clear b;set a;set a;", 4, 15);
        Check.error("sets 1 1;set a;add b 9;", 4, 19);
        Check.error("sets 1 1;set a;add a 9 %;", 3, 21);
        Check.error("sets 1 1;set a;add a % 9;", 1, 21);
        Check.error("sets 1 1;set a;add a 0 b 9;", 1, 23);
    }

    private static void smallestCode() {
        Check.sentence("Terms", "If several codes apply at one position, the smallest is reported.");
        // An invalid token (1) that is out of range (3), no earlier set (4), or a first word (5).
        Check.error("sets 1000 1;", 1, 5);
        Check.error("sets 1 1000;", 1, 7);
        Check.error("sets 1 1;set a;add a 1000;", 1, 21);
        Check.error("sets 1 1;clear abcdefghi;", 1, 15);
        Check.error("sets 1 1;set a;set b;set c;set d;set e;setttttttt f;", 1, 39);
        // A token that is not allowed (1) where a set, a member or a name is due.
        Check.error("sets 1 1;clear 9;", 1, 15);
        Check.error("sets 1 1;set a;add a a;", 1, 21);
        Check.error("sets 1 1;set a;set 9;", 1, 19);
    }

    private static void firstByteOfItsToken() {
        Check.sentence("Terms", "The position of an error is the index of the first byte of its token");
        Check.error("x", 1, 0);
        Check.error(" \n x", 1, 3);
        Check.error("sets   999   1;", 3, 7);
        Check.error("sets 1\n\n061;", 3, 8);
        Check.error("sets 1 1;set   a;set   a;", 2, 23);
        Check.error("sets 1 1;clear\n\nabcdefgh;", 4, 16);
        Check.error("sets 1 1;set a;add a 0\n\n\n 12;", 3, 26);
        Check.error("sets 1 1;set a;set b;set c;set d;set e; \n set f;", 5, 42);
        // Two tokens that touch are two tokens: the second one's first byte.
        Check.error("sets 1 1;set a;add a0 1;", 3, 22);
        Check.error("sets 1 1;set a;add a999;", 3, 20);
    }

    private static void textThatEndsTooEarly() {
        Check.sentence("Terms", "if the text ends too early, it is the length of the text");
        Check.error("", 1, 0);
        Check.error(" ", 1, 1);
        Check.error("\n\n\n", 1, 3);
        Check.error("sets", 1, 4);
        Check.error("sets 1 1", 1, 8);
        Check.error("sets 1 1  \n", 1, 11);
        // The length of the text, not that of the buffer.
        TwinSets x = new TwinSets();
        Check.append(x, "sets 1 1;mark   ;");
        Check.same("parse(13)", x.parse(13), 1);
        Check.same("errorPosition()", x.errorPosition(), 13);
        Check.append(x, "sets 1 1;mark   ;");
        Check.same("parse(16)", x.parse(16), 1);
        Check.same("errorPosition()", x.errorPosition(), 16);
        Check.append(x, "sets 1 1;mark   ;");
        Check.same("parse(17)", x.parse(17), 0);
    }

    // ---- promises 1 and 2

    private static void newObject() {
        Check.sentence("Promise 1", "Creates sets as with the text \"sets 1 1;\", with an empty input buffer.");
        TwinSets x = new TwinSets();
        Check.same("as with the text", Look.all(x), Look.all(Check.sets("sets 1 1;")));
        Check.same("changes", x.size(7), 0);
        Check.same("undo()", x.undo(), -1);
        Check.throwsIndex("there is no set 0", () -> x.clear(0));
        Check.throwsArgument("the buffer is empty", () -> x.parse(1));
        Check.same("find()", x.find(), -1);
        Check.same("append", x.append(SPACES, SPACES, SPACES, SPACES, SPACES), 20);
        TwinSets y = new TwinSets();
        Check.same("parse(0)", y.parse(0), 1);
        Check.same("its position", y.errorPosition(), 0);
    }

    private static void append20Bytes() {
        Check.sentence("Promise 2", "Appends 20 bytes to the input buffer");
        TwinSets x = new TwinSets();
        Check.append(x, "sets 1 1");
        Check.throwsArgument("parse(21)", () -> x.parse(21));
        Check.same("parse(20)", x.parse(20), 1);
        Check.same("the length of the text", x.errorPosition(), 20);
        // The second call's bytes stand right behind the first call's, within a word.
        Check.append(x, "sets 1 1;set      ab");
        Check.append(x, "cdefgh;mark;");
        Check.same("parse(40)", x.parse(40), 0);
        Check.same("find abcdefgh", Check.find(x, "abcdefgh"), 0);
    }

    private static void appendBytes() {
        Check.sentence("Promise 2", "the four bytes of each argument, the most significant byte first");
        TwinSets x = new TwinSets();
        x.append(0x73657473, 0x20362037, 0x3B736574, 0x20616263, 0x64656667);
        x.append(0x683B6164, 0x64206162, 0x63646566, 0x67682035, 0x20303B20);
        Check.same("parse(40)", x.parse(40), 0);
        Check.same("universe", x.size(1), 6);
        Check.same("horizon", x.size(2), 7);
        Check.members("add abcdefgh 5 0;", x, 0, "5 0");
        // The byte 255, 128 or 0 at each of the 20 places is that byte.
        int[] bytes = {255, 128, 0};
        for (int i = 0; i < 60; i++) {
            int[] words = {SPACES, SPACES, SPACES, SPACES, SPACES};
            int place = i % 20;
            int shift = 24 - 8 * (place % 4);
            words[place / 4] = words[place / 4] & ~(0xFF << shift) | bytes[i / 20] << shift;
            x.append(words[0], words[1], words[2], words[3], words[4]);
            Check.same("parse(20)", x.parse(20), 1);
            Check.same("place of byte " + bytes[i / 20], x.errorPosition(), place);
        }
    }

    private static void appendBeyond600() {
        Check.sentence("Promise 2", "Returns the new length of the buffer; NONE, with nothing appended, if it would exceed 600.");
        TwinSets x = new TwinSets();
        x.append(0x73657473, 0x20362037, 0x3B202020, SPACES, SPACES);
        for (int length = 40; length <= 600; length += 20) {
            Check.same("append", x.append(SPACES, SPACES, SPACES, SPACES, SPACES), length);
        }
        Check.same("append beyond 600", x.append(-1, -1, -1, -1, -1), -1);
        Check.same("append beyond 600 again", x.append(0x73657473, 0x20362037, 0x3B202020, 0, 0), -1);
        Check.throwsArgument("nothing is appended: parse(601)", () -> x.parse(601));
        Check.throwsArgument("nothing is appended: parse(620)", () -> x.parse(620));
        Check.same("parse(600)", x.parse(600), 0);
        Check.same("universe", x.size(1), 6);
        Check.same("append to the buffer that is empty now", x.append(0, 0, 0, 0, 0), 20);
    }

    // ---- promises 3 and 4

    private static void parseFirstBytes() {
        Check.sentence("Promise 3", "Parses the first length bytes of the input buffer as a text.");
        String text = "sets 12 34;set ab;mark;";
        int[] codes = {1, 1, 1, 1, 1, 1, 1, 1, 1, 1, 1, 0, 1, 1, 1, 1, 1, 1, 0, 1, 1, 1, 1, 0};
        int[] positions = {0, 0, 0, 0, 4, 5, 6, 7, 8, 9, 10, -1, 11, 11, 14, 15, 16, 17, -1, 18, 18, 18, 22, -1};
        for (int length = 0; length <= text.length(); length++) {
            TwinSets x = new TwinSets();
            Check.append(x, text);
            Check.same("parse(" + length + ")", x.parse(length), codes[length]);
            Check.same("position of parse(" + length + ")", x.errorPosition(), positions[length]);
            Check.same("sets of parse(" + length + ")", x.size(0), length == 18 || length == 23 ? 1 : 0);
            Check.same("marks of parse(" + length + ")", x.size(4), length == 23 ? 1 : 0);
        }
    }

    private static void parseAllBytes() {
        Check.sentence("Promise 3", "0 to the length of the buffer");
        for (int length = 20; length <= 600; length += 20) {
            TwinSets x = new TwinSets();
            Check.append(x, filled("sets 7 1;", "").substring(0, length));
            int more = length + 1;
            Check.throwsArgument("parse(" + more + ") of " + length, () -> x.parse(more));
            Check.same("parse(" + length + ") of " + length, x.parse(length), 0);
            Check.same("universe", x.size(1), 7);
            Check.same("parse(0) of 0", x.parse(0), 1);
            Check.throwsArgument("parse(1) of 0", () -> x.parse(1));
        }
    }

    private static void parseReplaces() {
        Check.sentence("Promise 3", "On success the described sets replace the current ones.");
        TwinSets x = Check.sets("sets 64 60;set a;set b;set c;set d;set e;add a 1 2 3;add e 63 62;clear a;mark;mark;");
        x.open(4, true);
        x.open(0, false);
        x.step(0);
        x.remove(4, 63);
        Check.same("parse of one set", Check.parse(x, "sets 3 2;set e;"), 0);
        Check.same("as new", Look.all(x), Look.all(Check.sets("sets 3 2;set e;")));
        Check.same("find a", Check.find(x, "a"), -1);
        Check.throwsIndex("set(1, 0)", () -> x.set(1, 0));
        Check.same("open", x.open(0, false), 0);
        Check.same("parse of no set", Check.parse(x, "sets 1 1;"), 0);
        Check.same("as a new object", Look.all(x), Look.all(new TwinSets()));
        Check.same("parse of five sets", Check.parse(x, "sets 64 60;set v;set w;set x;set y;set z;"), 0);
        Check.same("as new", Look.all(x), Look.all(Check.sets("sets 64 60;set v;set w;set x;set y;set z;")));
        // What is forgotten and what stands in the rows is gone, too.
        String[] texts = {"sets 9 2;set a;set b;add a 0 1 2 3;add b 8 7 6 5;clear b;mark;", "sets 9 3;set b;set a;add a 1;",
            "sets 8 1;set c;set d;add d 3;"};
        for (int i = 0; i < 7; i++) {
            Check.same("parse, time " + i, Check.parse(x, texts[i % 3]), 0);
            Check.same("as new, time " + i, Look.all(x), Look.all(Check.sets(texts[i % 3])));
            x.unite(0, 1);
            x.clear(1);
            x.add(1, 2);
            x.open(0, true);
            x.mark();
        }
    }

    private static void parseErrorChangesNothing() {
        Check.sentence("Promise 3", "On a parse error nothing changes except that the whole buffer is emptied");
        String[] wrong = {"", "sets", "put 1 1;", "sets 0 1;", "sets 1 0;", "sets 1 61;", "sets 1 1", "sets 1 1;!",
            "sets 1 1;set a;set a;", "sets 1 1;clear a;", "sets 1 1;set a;add a 1;", "sets 1 1;set a;remove a 1;",
            "sets 2 2;set a;set b;set c;set d;set e;set f;", "sets 64 60;set z;add z 0 1 2 3 4 5 6 7;mark;clear z;!"};
        for (String text : wrong) {
            TwinSets x = Check.sets("sets 4 3;set a;set b;add a 1 2;mark;");
            x.open(0, false);
            x.step(0);
            x.saveSnapshot(1);
            x.add(1, 3);
            String before = Look.all(x);
            Check.same("parse(\"" + text + "\") is an error", Check.parse(x, text) > 0, true);
            Check.same("nothing changes by it", Look.all(x), before);
            Check.throwsArgument("but the buffer is empty", () -> x.parse(1));
            Check.same("the history stays", x.undo(), 2);
            Check.same("the slot stays", x.restoreSnapshot(1), 2);
            Check.throwsState("the other one, too", () -> x.restoreSnapshot(0));
        }
    }

    private static void parseEmptiesTheBuffer() {
        Check.sentence("Promise 3", "the whole buffer is emptied; it is also empty after a success.");
        TwinSets x = new TwinSets();
        String[] texts = {"sets 1 1;", "sets 1 1;!"};
        for (String text : texts) {
            Check.append(x, text + " and much that stands behind it");
            x.parse(text.length());
            Check.throwsArgument("parse(1)", () -> x.parse(1));
            Check.same("append", x.append(0x73657473, 0x20362037, 0x3B202020, SPACES, SPACES), 20);
            Check.same("parse(20)", x.parse(20), 0);
        }
        // Also when the length is 0.
        Check.append(x, "sets 1 1;");
        Check.same("parse(0)", x.parse(0), 1);
        Check.throwsArgument("parse(1)", () -> x.parse(1));
    }

    private static void parseLength() {
        Check.sentence("Promise 3", "Throws `IllegalArgumentException` if length is out of range");
        TwinSets x = new TwinSets();
        for (int length : new int[] {-1, 1, 20, 600, 601, Integer.MAX_VALUE, Integer.MIN_VALUE}) {
            Check.throwsArgument("parse(" + length + ") of 0", () -> x.parse(length));
        }
        Check.append(x, "sets 5 6;           sets");
        for (int length : new int[] {-1, 41, 60, Integer.MAX_VALUE, Integer.MIN_VALUE}) {
            Check.throwsArgument("parse(" + length + ") of 40", () -> x.parse(length));
        }
        Check.same("position behind what throws", x.errorPosition(), -1);
        Check.same("universe behind what throws", x.size(1), 1);
        Check.same("the buffer stays: parse(40)", x.parse(40), 1);
        Check.same("errorPosition()", x.errorPosition(), 20);
        Check.append(x, "sets 5 6;           sets");
        Check.same("parse(20) of 40", x.parse(20), 0);
    }

    private static void errorPosition() {
        Check.sentence("Promise 4", "Returns the position of the parse error of the last call of parse that did not throw an exception.");
        TwinSets x = new TwinSets();
        Check.parse(x, "sets 1 x;");
        Check.same("behind an error", x.errorPosition(), 7);
        Check.same("asked again", x.errorPosition(), 7);
        Check.throwsArgument("parse(1)", () -> x.parse(1));
        Check.same("behind what throws", x.errorPosition(), 7);
        Check.parse(x, "sets x 1;");
        Check.same("behind another error", x.errorPosition(), 5);
        Check.find(x, "a");
        x.mark();
        x.saveSnapshot(0);
        x.restoreSnapshot(0);
        x.undo();
        Check.same("behind other calls", x.errorPosition(), 5);
        x.parse(0);
        Check.same("behind an empty text", x.errorPosition(), 0);
    }

    private static void errorPositionNone() {
        Check.sentence("Promise 4", "Returns the position; NONE if that call succeeded or there was none.");
        TwinSets x = new TwinSets();
        Check.same("no call", x.errorPosition(), -1);
        Check.throwsArgument("parse(-1)", () -> x.parse(-1));
        Check.same("a call that throws", x.errorPosition(), -1);
        Check.parse(x, "!");
        Check.same("an error", x.errorPosition(), 0);
        Check.parse(x, "sets 1 1;");
        Check.same("a success", x.errorPosition(), -1);
        Check.throwsArgument("parse(-1)", () -> x.parse(-1));
        Check.same("a call that throws behind a success", x.errorPosition(), -1);
    }

    // ---- promises 5 to 7

    private static void sizesNow() {
        Check.sentence("Promise 5", "0 sets, 1 universe, 2 horizon, 3 the clock, 4 marks, 5 cursors that there are (also ended ones), "
                + "6 the cost, 7 changes that can be undone");
        TwinSets x = new TwinSets();
        int[] least = {0, 1, 1, 0, 0, 0, 0, 0};
        for (int what = 0; what < 8; what++) {
            Check.same("of a new object: size(" + what + ")", x.size(what), least[what]);
        }
        Check.parse(x, "sets 64 60;set a;set b;set c;set d;set e;mark;mark;mark;mark;mark;mark;mark;");
        x.mark();
        for (int i = 0; i < 6; i++) {
            x.open(i % 5, false);
        }
        for (int number = 0; number < 64; number++) {
            x.add(4, number);
        }
        int[] most = {5, 64, 60, 64, 8, 6, 128, 10};
        for (int what = 0; what < 8; what++) {
            Check.same("of a full object: size(" + what + ")", x.size(what), most[what]);
        }
        x.undo();
        int[] less = {5, 64, 60, 63, 8, 6, 126, 9};
        for (int what = 0; what < 8; what++) {
            Check.same("behind undo: size(" + what + ")", x.size(what), less[what]);
        }
    }

    private static void cursorsThatThereAre() {
        Check.sentence("Promise 5", "5 cursors that there are (also ended ones)");
        TwinSets x = Check.sets("sets 64 60;set a;set b;set c;set d;set e;");
        for (int i = 0; i < 6; i++) {
            Check.same("cursors", x.size(5), i);
            x.open(i % 5, false);
        }
        Check.same("cursors", x.size(5), 6);
        x.step(0);
        x.clear(1);
        Check.same("ended ones count", x.size(5), 6);
        x.close(0);
        Check.same("closed ones do not", x.size(5), 5);
        x.undo();
        Check.same("close undone", x.size(5), 6);
    }

    private static void sizeRange() {
        Check.sentence("Promise 5", "Throws `IllegalArgumentException` if what is out of range");
        TwinSets x = Check.sets("sets 64 60;");
        Check.same("size(0)", x.size(0), 0);
        Check.same("size(7)", x.size(7), 0);
        for (int what : new int[] {-1, 8, 9, Integer.MAX_VALUE, Integer.MIN_VALUE}) {
            Check.throwsArgument("size(" + what + ")", () -> x.size(what));
        }
    }

    private static void findEachName() {
        Check.sentence("Promise 6", "Finds the set whose name the input buffer contains");
        Check.sentence("Promise 6", "Returns the set; NONE if there is none.");
        String[] names = {"a", "aa", "aaaaaaaa", "aaaaaaa", "set"};
        TwinSets x = Check.sets("sets 1 1;set a;set aa;set aaaaaaaa;set aaaaaaa;set set;");
        for (int set = 0; set < 5; set++) {
            Check.same("find " + names[set], Check.find(x, names[set]), set);
        }
        for (String other : new String[] {"b", "ab", "ba", "aaa", "aaaaaaab", "baaaaaaa", "aaaaaaaaa", "se", "sett"}) {
            Check.same("find " + other, Check.find(x, other), -1);
        }
        Check.parse(x, "sets 1 1;set b;");
        Check.same("find a name of an earlier text", Check.find(x, "aa"), -1);
        Check.same("find a name of this one", Check.find(x, "b"), 0);
        Check.parse(x, "sets 1 1;set c;!");
        Check.same("find a name of a text with an error", Check.find(x, "c"), -1);
        Check.same("find a name of the text before", Check.find(x, "b"), 0);
    }

    private static void findSpaces() {
        Check.sentence("Promise 6", "bytes 32 may stand behind it");
        TwinSets x = Check.sets("sets 1 1;set a;set abcdefgh;set ab;set b;set z;");
        Check.same("find a", Check.find(x, "a"), 0);
        Check.same("find the last", Check.find(x, "z"), 4);
        Check.same("find with 599 spaces", Check.find(x, filled("a", "")), 0);
        Check.same("find with 592 spaces", Check.find(x, filled("abcdefgh", "")), 1);
        Check.same("find with 19 spaces", Check.find(x, "b" + run(' ', 19)), 3);
        Check.same("find with 20 spaces", Check.find(x, "b" + run(' ', 20)), 3);
        // A name that ends with the buffer, with no space behind it: the words of a text have 8 letters at most.
        Check.same("find 20 letters", Check.find(x, "abcdefghabcdefghabcd"), -1);
    }

    private static void findAnythingElse() {
        Check.sentence("Promise 6", "with anything else in the buffer there is none");
        TwinSets x = Check.sets("sets 1 1;set a;set abcdefgh;set ab;");
        Check.same("an empty buffer", x.find(), -1);
        for (int b = 0; b < 256; b++) {
            if (b != ' ') {
                Check.same("find a, byte " + b, Check.find(x, "a" + (char) b), b == 'b' ? 2 : -1);
                Check.same("find a, a space, byte " + b, Check.find(x, "a " + (char) b), -1);
                Check.same("find byte " + b + ", a", Check.find(x, (char) b + "a"), -1);
                Check.same("find byte " + b, Check.find(x, "" + (char) b), b == 'a' ? 0 : -1);
            }
        }
        Check.same("find a behind a space", Check.find(x, " a"), -1);
        Check.same("find spaces", Check.find(x, " "), -1);
        Check.same("find 600 spaces", Check.find(x, filled("", "")), -1);
        Check.same("find a with a letter as the last of 600", Check.find(x, filled("a", "b")), -1);
        Check.same("find abcdefg", Check.find(x, "abcdefg"), -1);
        Check.same("find abcdefghi", Check.find(x, "abcdefghi"), -1);
        Check.same("find in an object without sets", Check.find(new TwinSets(), "a"), -1);
    }

    private static void findEmptiesTheBuffer() {
        Check.sentence("Promise 6", "The buffer is empty afterwards.");
        TwinSets x = Check.sets("sets 1 1;set a;");
        for (String text : new String[] {"a", "b", filled("a", ""), filled("", "a")}) {
            Check.find(x, text);
            Check.throwsArgument("parse(1) behind find", () -> x.parse(1));
            Check.same("find behind find", x.find(), -1);
            Check.same("append behind find", x.append(SPACES, SPACES, SPACES, SPACES, SPACES), 20);
        }
    }

    private static void markedThen() {
        Check.sentence("Promise 7", "Returns the clock as it was at a mark.");
        TwinSets x = Check.sets("sets 9 1;set a;mark;add a 0 1;mark;");
        x.clear(0);
        x.mark();
        x.clear(0);
        x.mark();
        x.add(0, 8);
        int[] due = {0, 2, 3, 3};
        for (int mark = 0; mark < 4; mark++) {
            Check.same("marked(" + mark + ")", x.marked(mark), due[mark]);
        }
    }

    private static void markedNone() {
        Check.sentence("Promise 7", "Returns the clock; NONE if there are not so many, or mark is negative.");
        TwinSets x = Check.sets("sets 9 9;set a;");
        for (int marks = 0; marks < 8; marks++) {
            Check.same("marked(" + marks + ") of " + marks, x.marked(marks), -1);
            x.mark();
            Check.same("marked(" + marks + ") of one more", x.marked(marks), marks);
            x.add(0, marks);
        }
        for (int mark : new int[] {-1, 8, 9, Integer.MAX_VALUE, Integer.MIN_VALUE}) {
            Check.same("marked(" + mark + ")", x.marked(mark), -1);
        }
        x.undo();
        x.undo();
        Check.same("marked(7), undone", x.marked(7), -1);
        Check.same("marked(6)", x.marked(6), 6);
    }
}
