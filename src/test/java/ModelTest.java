import java.util.ArrayList;
import java.util.List;
import java.util.TreeSet;

/** Long runs of calls, chosen by a fixed rule, on TwinSets and on Model: all answers must agree. */
public final class ModelTest {
    private static final int RUNS = 400;
    private static final int CHANGES = 150;
    private static final int TEXTS = 6000;

    private static long seed;

    private static TwinSets x;
    private static Model model;
    private static final List<Model> undo = new ArrayList<>();
    private static final Model[] slots = new Model[2];
    private static String told = "";

    public static void main(String[] args) {
        for (int i = 0; i < TEXTS && Check.isFine(); i++) {
            seed = i;
            begin();
            compareText(i % 3 == 0 ? anyText() : i % 3 == 1 ? fineText() : spoiled(fineText()));
        }
        for (int i = 0; i < RUNS && Check.isFine(); i++) {
            seed = 77777 + i;
            run();
        }
        Check.end();
    }

    private static int below(int bound) {
        seed = seed * 6364136223846793005L + 1442695040888963407L;
        return (int) ((seed >>> 33) % bound);
    }

    private static String oneOf(String... choices) {
        return choices[below(choices.length)];
    }

    // ---- texts

    private static String anyText() {
        StringBuilder text = new StringBuilder("sets 5 3;set a;".substring(0, below(16)));
        for (int i = below(25); i > 0; i--) {
            text.append(oneOf("set", "add", "remove", "clear", "mark", "a", "b", "sets", ";", ";", " ", " ", "\n",
                    "0", "3", "04", "005", "5", "64", "65", "60", "61", "1000", "abcdefgh", "abcdefghi", "A", ",", "\t"));
            text.append(oneOf("", " ", " ", ";"));
        }
        return text.toString();
    }

    private static String fineText() {
        int universe = below(3) == 0 ? 1 + below(64) : 1 + below(12);
        StringBuilder text = new StringBuilder("sets ").append(universe).append(' ').append(1 + below(below(2) == 0 ? 60 : 6)).append(';');
        int sets = 1 + below(5);
        int marks = 0;
        for (int i = 0; i < sets; i++) {
            text.append("set ").append((char) ('a' + i)).append(oneOf(";", " ; ", "\n;"));
        }
        for (int i = below(12); i > 0; i--) {
            String word = oneOf("add", "add", "add", "remove", "clear", "mark");
            boolean isMark = word.equals("mark");
            if (isMark && marks == 8) {
                continue;
            }
            marks += isMark ? 1 : 0;
            text.append(word).append(isMark ? "" : " " + (char) ('a' + below(sets)));
            for (int k = 1 + below(6); k > 0 && !isMark && !word.equals("clear"); k--) {
                text.append(' ').append(below(universe));
            }
            text.append(oneOf(";", "; ", " ;\n"));
        }
        return text.toString();
    }

    private static String spoiled(String text) {
        int at = below(text.length());
        if (below(2) == 0) {
            return text.substring(0, at);
        }
        return text.substring(0, at) + oneOf("", "7", ";", "a", " ", "set b;", "mark;", "!", "99") + text.substring(at + below(2));
    }

    private static void compareText(String text) {
        told = told + "\nparse(\"" + text + "\")";
        int code = 0;
        int position = -1;
        try {
            model = Model.parsed(text);
            undo.clear();
            slots[0] = null;
            slots[1] = null;
        } catch (Model.ParseError e) {
            code = e.code;
            position = e.position;
        }
        Check.same(told, Check.parse(x, text), code);
        Check.same(told + ", errorPosition()", x.errorPosition(), position);
        compareAll();
    }

    // ---- changes

    private static void begin() {
        x = new TwinSets();
        model = new Model();
        undo.clear();
        told = "";
    }

    private static void run() {
        begin();
        compareText(fineText());
        for (int i = 0; i < CHANGES && Check.isFine(); i++) {
            if (below(40) == 0) {
                compareText(below(2) == 0 ? fineText() : spoiled(fineText()));
            }
            if (model.sets.isEmpty()) {
                compareText(fineText());
            }
            change();
            if (i % 5 == 0 || i > CHANGES - 5) {
                compareAll();
            }
        }
    }

    private static void due(String call, long got, long due) {
        told = told + "\n" + call;
        if (got != due) {
            Check.report("behind these calls:\n" + told + "\nanswered " + got + ", due is " + due);
        }
    }

    private static void remember() {
        undo.add(model.copy());
        if (undo.size() > 10) {
            undo.remove(0);
        }
    }

    private static void change() {
        int set = below(model.sets.size());
        int other = below(model.sets.size());
        int number = below(model.universe);
        int which = below(100);
        if (which < 25) {
            remember();
            model.add(set, number);
            due("add(" + set + ", " + number + ")", x.add(set, number), model.sets.get(set).places[number]);
        } else if (which < 40) {
            remember();
            due("remove(" + set + ", " + number + ")", x.remove(set, number) ? 1 : 0, model.remove(set, number) ? 1 : 0);
        } else if (which < 43) {
            remember();
            due("clear(" + set + ")", x.clear(set), model.clear(set));
        } else if (which < 46) {
            remember();
            due("keep(" + set + ", " + other + ")", x.keep(set, other), model.keep(set, other));
        } else if (which < 53) {
            remember();
            due("unite(" + set + ", " + other + ")", x.unite(set, other), model.unite(set, other));
        } else if (which < 55) {
            changeMarks();
        } else if (which < 63) {
            changeByOpen(set, which % 2 == 0);
        } else if (which < 93) {
            changeByCursor(below(6), which);
        } else {
            goBack(which);
        }
    }

    private static void changeMarks() {
        if (model.marks.size() == 8) {
            Check.throwsState("mark()", () -> x.mark());
            return;
        }
        remember();
        model.marks.add(model.clock);
        due("mark()", x.mark(), model.marks.size() - 1);
    }

    private static void changeByOpen(int set, boolean strict) {
        if (model.cursors.size() == 6) {
            Check.throwsState("open", () -> x.open(set, strict));
            return;
        }
        remember();
        due("open(" + set + ", " + strict + ")", x.open(set, strict), model.open(set, strict));
    }

    private static void changeByCursor(int number, int which) {
        if (model.cursor(number) == null) {
            Check.throwsIndex("step(" + number + ")", () -> x.step(number));
            Check.throwsIndex("removeMet(" + number + ")", () -> x.removeMet(number));
            Check.throwsIndex("close(" + number + ")", () -> x.close(number));
        } else if (which < 84) {
            remember();
            due("step(" + number + ")", x.step(number), model.step(model.cursor(number)));
        } else if (which < 90) {
            removeMet(number);
        } else {
            remember();
            Model.Cursor cursor = model.cursor(number);
            model.cursors.remove(cursor);
            due("close(" + number + ")", x.close(number), cursor.met);
        }
    }

    private static void removeMet(int number) {
        Model.Cursor cursor = model.cursor(number);
        if (cursor.last < 0 || !cursor.open || !model.sets.get(cursor.set).isMember(cursor.last)) {
            Check.throwsState("removeMet(" + number + ")", () -> x.removeMet(number));
            return;
        }
        remember();
        model.remove(cursor.set, model.cursor(number).last);
        due("removeMet(" + number + ")", x.removeMet(number), cursor.last);
    }

    private static void goBack(int which) {
        int slot = which % 2;
        if (which < 97) {
            if (undo.isEmpty()) {
                due("undo()", x.undo(), -1);
            } else {
                model = undo.remove(undo.size() - 1);
                due("undo()", x.undo(), undo.size());
            }
        } else if (which < 99) {
            due("saveSnapshot(" + slot + ")", x.saveSnapshot(slot) ? 1 : 0, slots[slot] != null ? 1 : 0);
            slots[slot] = model.copy();
        } else if (slots[slot] == null) {
            Check.throwsState("restoreSnapshot(" + slot + ")", () -> x.restoreSnapshot(slot));
        } else {
            model = slots[slot].copy();
            undo.clear();
            due("restoreSnapshot(" + slot + ")", x.restoreSnapshot(slot), model.clock);
        }
    }

    // ---- all that can be asked

    private static void same(String call, long got, long due) {
        if (got != due) {
            Check.report("behind these calls:\n" + told + "\n" + call + " answered " + got + ", due is " + due);
        }
    }

    private static void compareAll() {
        int[] sizes = {model.sets.size(), model.universe, model.horizon, model.clock, model.marks.size(),
            model.cursors.size(), model.cost, undo.size()};
        for (int what = 0; what < 8; what++) {
            same("size(" + what + ")", x.size(what), sizes[what]);
        }
        for (int mark = -1; mark < 9; mark++) {
            same("marked(" + mark + ")", x.marked(mark), mark >= 0 && mark < model.marks.size() ? model.marks.get(mark) : -1);
        }
        for (int set = 0; set < model.sets.size() && Check.isFine(); set++) {
            compareRows(set);
            compareVersions(set);
            comparePairs(set);
        }
        for (int cursor = 0; cursor < 6; cursor++) {
            compareCursor(cursor);
        }
    }

    private static void compareRows(int set) {
        Model.Rows rows = model.sets.get(set);
        int open = 0;
        for (Model.Cursor cursor : model.cursors) {
            open += cursor.open && cursor.set == set ? 1 : 0;
        }
        int kept = Math.min(rows.events.size(), model.horizon);
        int[] due = {rows.size, rows.generation, model.firstStamp(set), kept, open};
        for (int what = 0; what < 5; what++) {
            same("set(" + set + ", " + what + ")", x.set(set, what), due[what]);
        }
        same("find " + rows.name, Check.find(x, rows.name), set);
        for (int number = 0; number < model.universe; number++) {
            boolean isMember = rows.isMember(number);
            String of = "(" + set + ", " + number + ")";
            same("cell, members, " + of, x.cell(set, number, false), rows.members[number]);
            same("cell, places, " + of, x.cell(set, number, true), rows.places[number]);
            same("place" + of, x.place(set, number), isMember ? rows.places[number] : -1);
            same("stampOf" + of, x.stampOf(set, number), isMember ? rows.stamps.get(number) : -1);
        }
        for (int k = 0; k <= kept; k++) {
            for (int part = 0; part < 3; part++) {
                same("event(" + set + ", " + k + ", " + part + ")", x.event(set, k, part),
                        k < kept ? rows.events.get(rows.events.size() - kept + k)[part] : -1);
            }
        }
    }

    private static long bits(TreeSet<Integer> members) {
        long bits = 0;
        for (int number : members) {
            bits |= 1L << number;
        }
        return bits;
    }

    private static void compareVersions(int set) {
        int first = model.firstStamp(set);
        for (int stamp = first; stamp <= model.clock; stamp += 1 + (model.clock - first) / 9) {
            same("at(" + set + ", " + stamp + ")", x.at(set, stamp), bits(model.at(set, stamp)));
            compareDiffers(set, stamp, first + below(model.clock - first + 1));
        }
        Check.throwsArgument("at before the first stamp", () -> x.at(set, first - 1));
        Check.throwsArgument("at behind the clock", () -> x.at(set, model.clock + 1));
        for (int i = 0; i < 6; i++) {
            int number = below(model.universe);
            same("since(" + set + ", " + number + ")", x.since(set, number), model.since(set, number));
        }
        same("fullest(" + set + ")", x.fullest(set), model.fullest(set));
    }

    private static void compareDiffers(int set, int from, int to) {
        TreeSet<Integer> came = model.at(set, to);
        came.removeAll(model.at(set, from));
        same("differs(" + set + ", " + from + ", " + to + ", true)", x.differs(set, from, to, true), came.size());
        same("differs(" + set + ", " + to + ", " + from + ", false)", x.differs(set, to, from, false), came.size());
    }

    private static void comparePairs(int set) {
        for (int other = 0; other < model.sets.size(); other++) {
            TreeSet<Integer> members = model.at(set, model.clock);
            TreeSet<Integer> others = model.at(other, model.clock);
            TreeSet<Integer> both = new TreeSet<>(members);
            both.retainAll(others);
            TreeSet<Integer> one = new TreeSet<>(members);
            one.addAll(others);
            String of = "(" + set + ", " + other + ")";
            same("common" + of, x.common(set, other), both.size());
            same("isWithin" + of, x.isWithin(set, other) ? 1 : 0, others.containsAll(members) ? 1 : 0);
            Check.same("likeness" + of, x.likeness(set, other), one.isEmpty() ? 1.0 : (double) both.size() / one.size());
        }
    }

    private static void compareCursor(int number) {
        Model.Cursor cursor = model.cursor(number);
        if (cursor == null) {
            Check.throwsIndex("cursor(" + number + ", 0)", () -> x.cursor(number, 0));
            return;
        }
        int[] due = {cursor.set, cursor.position, cursor.open ? 1 : 0, cursor.strict ? 1 : 0, cursor.made, cursor.met, cursor.last};
        for (int what = 0; what < 7; what++) {
            same("cursor(" + number + ", " + what + ")", x.cursor(number, what), due[what]);
        }
        same("ahead(" + number + ")", x.ahead(number), model.ahead(cursor));
    }
}
