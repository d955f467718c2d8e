import java.util.ArrayList;
import java.util.Comparator;
import java.util.HashMap;
import java.util.List;
import java.util.Map;
import java.util.TreeSet;
import java.util.regex.Matcher;
import java.util.regex.Pattern;

/**
 * The document once more, word by word and without a thought for room: nothing is ever forgotten, and
 * a copy of everything stands for undo and snapshots. ModelTest holds TwinSets against it.
 */
final class Model {
    static final class Rows {
        String name;
        int size;
        int generation;
        int[] members;
        int[] places;
        Map<Integer, Integer> stamps = new HashMap<>();
        List<int[]> events = new ArrayList<>();

        boolean isMember(int number) {
            for (int place = 0; place < size; place++) {
                if (members[place] == number) {
                    return true;
                }
            }
            return false;
        }
    }

    static final class Cursor {
        int number;
        int set;
        int position;
        boolean open = true;
        boolean strict;
        int made;
        int met;
        int last = -1;
    }

    static final class ParseError extends Exception {
        private static final long serialVersionUID = 1;
        final int code;
        final int position;

        ParseError(int code, int position) {
            this.code = code;
            this.position = position;
        }
    }

    int universe = 1;
    int horizon = 1;
    int clock;
    int cost;
    List<Rows> sets = new ArrayList<>();
    List<Integer> marks = new ArrayList<>();
    List<Cursor> cursors = new ArrayList<>();

    Model copy() {
        Model copy = new Model();
        copy.universe = universe;
        copy.horizon = horizon;
        copy.clock = clock;
        copy.cost = cost;
        copy.marks.addAll(marks);
        for (Rows rows : sets) {
            Rows other = new Rows();
            other.name = rows.name;
            other.size = rows.size;
            other.generation = rows.generation;
            other.members = rows.members.clone();
            other.places = rows.places.clone();
            other.stamps.putAll(rows.stamps);
            other.events.addAll(rows.events);
            copy.sets.add(other);
        }
        for (Cursor cursor : cursors) {
            Cursor other = new Cursor();
            other.number = cursor.number;
            other.set = cursor.set;
            other.position = cursor.position;
            other.open = cursor.open;
            other.strict = cursor.strict;
            other.made = cursor.made;
            other.met = cursor.met;
            other.last = cursor.last;
            copy.cursors.add(other);
        }
        return copy;
    }

    // ---- text

    private static final Pattern TOKEN = Pattern.compile("[a-z]+|[0-9]+|[^ \n]");

    private List<String> tokens = new ArrayList<>();
    private List<Integer> positions = new ArrayList<>();
    private int next;

    static Model parsed(String text) throws ParseError {
        Model model = new Model();
        Matcher matcher = TOKEN.matcher(text);
        while (matcher.find()) {
            model.tokens.add(matcher.group());
            model.positions.add(matcher.start());
        }
        model.tokens.add("");
        model.positions.add(text.length());
        model.readAll();
        return model;
    }

    private boolean nextIs(String pattern) {
        return tokens.get(next).matches(pattern);
    }

    private ParseError error(int code, int token) {
        return new ParseError(code, positions.get(token));
    }

    private String take(String pattern) throws ParseError {
        if (!nextIs(pattern)) {
            throw error(1, next);
        }
        return tokens.get(next++);
    }

    private int takeNumber(int least, int greatest) throws ParseError {
        int number = Integer.parseInt(take("[0-9]{1,3}"));
        if (number < least || number > greatest) {
            throw error(3, next - 1);
        }
        return number;
    }

    private int takeSet() throws ParseError {
        int set = named(take("[a-z]{1,8}"));
        if (set < 0) {
            throw error(4, next - 1);
        }
        return set;
    }

    int named(String name) {
        for (int i = 0; i < sets.size(); i++) {
            if (sets.get(i).name.equals(name)) {
                return i;
            }
        }
        return -1;
    }

    private void readAll() throws ParseError {
        take("sets");
        universe = takeNumber(1, 64);
        horizon = takeNumber(1, 60);
        take(";");
        while (!nextIs("")) {
            String word = take("set|add|remove|clear|mark");
            if (word.equals("set") && sets.size() == 5 || word.equals("mark") && marks.size() == 8) {
                throw error(5, next - 1);
            }
            readRest(word);
            take(";");
        }
    }

    private void readRest(String word) throws ParseError {
        if (word.equals("set")) {
            String name = take("[a-z]{1,8}");
            if (named(name) >= 0) {
                throw error(2, next - 1);
            }
            Rows rows = new Rows();
            rows.name = name;
            rows.members = new int[universe];
            rows.places = new int[universe];
            sets.add(rows);
        } else if (word.equals("mark")) {
            marks.add(clock);
        } else if (word.equals("clear")) {
            clear(takeSet());
        } else {
            int set = takeSet();
            do {
                int number = takeNumber(0, universe - 1);
                if (word.equals("add")) {
                    add(set, number);
                } else {
                    remove(set, number);
                }
            } while (nextIs("[0-9]+"));
        }
    }

    // ---- changes

    boolean add(int set, int number) {
        Rows rows = sets.get(set);
        if (rows.isMember(number)) {
            return false;
        }
        write(rows, rows.size, number);
        rows.size++;
        note(rows, number, 0);
        rows.stamps.put(number, clock);
        return true;
    }

    private void write(Rows rows, int place, int number) {
        rows.members[place] = number;
        cost++;
        rows.places[number] = place;
        cost++;
    }

    private void note(Rows rows, int number, int kind) {
        clock++;
        rows.events.add(new int[] {clock, number, kind});
    }

    boolean remove(int set, int number) {
        Rows rows = sets.get(set);
        if (!rows.isMember(number)) {
            return false;
        }
        int hole = rows.places[number];
        List<Cursor> inOrder = new ArrayList<>(cursors);
        inOrder.removeIf(cursor -> !cursor.open || cursor.set != set);
        inOrder.sort(Comparator.<Cursor>comparingInt(cursor -> cursor.position).thenComparingInt(cursor -> cursor.number));
        for (Cursor cursor : inOrder) {
            if (cursor.position > hole) {
                hole = move(rows, cursor.position - 1, hole);
                cursor.position--;
            }
        }
        move(rows, rows.size - 1, hole);
        rows.size--;
        note(rows, number, 1);
        return true;
    }

    private int move(Rows rows, int from, int hole) {
        if (from != hole) {
            write(rows, hole, rows.members[from]);
        }
        return from;
    }

    int clear(int set) {
        Rows rows = sets.get(set);
        int before = rows.size;
        if (before > 0) {
            note(rows, -1, 2);
        }
        rows.size = 0;
        rows.generation++;
        cost++;
        for (Cursor cursor : cursors) {
            if (cursor.set == set) {
                cursor.open = false;
            }
        }
        return before;
    }

    int open(int set, boolean strict) {
        Cursor cursor = new Cursor();
        while (cursor(cursor.number) != null) {
            cursor.number++;
        }
        cursor.set = set;
        cursor.strict = strict;
        cursor.made = clock;
        cursors.add(cursor);
        return cursor.number;
    }

    Cursor cursor(int number) {
        for (Cursor cursor : cursors) {
            if (cursor.number == number) {
                return cursor;
            }
        }
        return null;
    }

    int step(Cursor cursor) {
        if (!cursor.open) {
            return -1;
        }
        Rows rows = sets.get(cursor.set);
        while (cursor.position < rows.size) {
            int number = rows.members[cursor.position++];
            cost++;
            if (!cursor.strict || rows.stamps.get(number) <= cursor.made) {
                cursor.met++;
                cursor.last = number;
                return number;
            }
        }
        cursor.open = false;
        return -1;
    }

    int keep(int set, int other) {
        int removed = 0;
        for (int place = sets.get(set).size - 1; place >= 0; place--) {
            int number = sets.get(set).members[place];
            if (!sets.get(other).isMember(number)) {
                remove(set, number);
                removed++;
            }
        }
        return removed;
    }

    int unite(int set, int other) {
        int came = 0;
        for (int place = 0; set != other && place < sets.get(other).size; place++) {
            came += add(set, sets.get(other).members[place]) ? 1 : 0;
        }
        return came;
    }

    // ---- what is asked

    int forgotten(int set) {
        return Math.max(0, sets.get(set).events.size() - horizon);
    }

    int firstStamp(int set) {
        int forgotten = forgotten(set);
        return forgotten == 0 ? 0 : sets.get(set).events.get(forgotten - 1)[0];
    }

    TreeSet<Integer> at(int set, int stamp) {
        TreeSet<Integer> members = new TreeSet<>();
        for (int[] event : sets.get(set).events) {
            if (event[0] > stamp) {
                break;
            }
            if (event[2] == 0) {
                members.add(event[1]);
            } else if (event[2] == 1) {
                members.remove(event[1]);
            } else {
                members.clear();
            }
        }
        return members;
    }

    int since(int set, int number) {
        int since = -1;
        List<int[]> events = sets.get(set).events;
        for (int[] event : events.subList(forgotten(set), events.size())) {
            if (at(set, event[0]).contains(number) != at(set, event[0] - 1).contains(number)) {
                since = event[0];
            }
        }
        return since;
    }

    int fullest(int set) {
        int best = firstStamp(set);
        for (int stamp = best + 1; stamp <= clock; stamp++) {
            if (at(set, stamp).size() > at(set, best).size()) {
                best = stamp;
            }
        }
        return best;
    }

    int ahead(Cursor cursor) {
        Model later = copy();
        int met = 0;
        while (later.step(later.cursor(cursor.number)) >= 0) {
            met++;
        }
        return met;
    }
}
