/** What can be seen of an object, as a text: two objects that look the same have the same state. */
final class Look {
    private Look() {
    }

    /** All that can be seen of an object, but for the changes that can be undone. */
    static String all(TwinSets x) {
        StringBuilder seen = new StringBuilder();
        for (int what = 0; what < 7; what++) {
            seen.append(x.size(what)).append(' ');
        }
        for (int mark = 0; mark < 8; mark++) {
            seen.append(x.marked(mark)).append(' ');
        }
        for (int set = 0; set < x.size(0); set++) {
            lookAtSet(x, set, seen);
        }
        for (int cursor = 0; cursor < 6; cursor++) {
            lookAtCursor(x, cursor, seen);
        }
        return seen.toString();
    }

    private static void lookAtSet(TwinSets x, int set, StringBuilder seen) {
        seen.append("| ");
        for (int what = 0; what < 5; what++) {
            seen.append(x.set(set, what)).append(' ');
        }
        for (int number = 0; number < x.size(1); number++) {
            seen.append(x.cell(set, number, false)).append(',').append(x.cell(set, number, true)).append(',')
                    .append(x.stampOf(set, number)).append(',').append(x.since(set, number)).append(' ');
        }
        for (int k = 0; k < x.set(set, 3); k++) {
            for (int part = 0; part < 3; part++) {
                seen.append(x.event(set, k, part)).append(' ');
            }
        }
        seen.append(x.at(set, x.set(set, 2)));
    }

    private static void lookAtCursor(TwinSets x, int cursor, StringBuilder seen) {
        try {
            seen.append("* ").append(x.ahead(cursor)).append(' ');
            for (int what = 0; what < 7; what++) {
                seen.append(x.cursor(cursor, what)).append(' ');
            }
        } catch (IndexOutOfBoundsException e) {
            seen.append("none ");
        }
    }
}
