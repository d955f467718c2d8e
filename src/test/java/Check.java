import java.io.IOException;
import java.nio.charset.StandardCharsets;
import java.nio.file.Files;
import java.nio.file.Path;
import java.util.Arrays;

/** What the tests share: they count wrong answers here and end with exit code 1 if there was one. */
final class Check {
    interface Call {
        void make();
    }

    private static final Path DOCUMENT = Path.of("../shared/DOC.md");

    // A test takes seconds; one that takes so long has met a call that does not end.
    private static final long LONGEST_TEST = 300_000;

    private static int wrong = 0;
    private static String document = "";
    private static volatile String about = "";

    static {
        Thread guard = new Thread(Check::endWhatDoesNotEnd);
        guard.setDaemon(true);
        guard.start();
    }

    private Check() {
    }

    private static void endWhatDoesNotEnd() {
        try {
            Thread.sleep(LONGEST_TEST);
            System.out.println(about + "a call does not end");
            Runtime.getRuntime().halt(1);
        } catch (InterruptedException e) {
            Thread.currentThread().interrupt();
        }
    }

    /**
     * Names the sentence that the checks behind this call are for. It must stand in the section of the
     * document, "Terms" or "Promise 1" to "Promise 34", word by word. Where there is no document, that is
     * not looked at: it says nothing of the class.
     */
    static void sentence(String section, String words) {
        about = section + ", \"" + words + "\": ";
        if (hasDocument() && !section(section).contains(words)) {
            report("the document does not say so");
        }
    }

    static boolean hasDocument() {
        return Files.exists(DOCUMENT);
    }

    /** A section of the document, with one space where it has spaces and line feeds. */
    static String section(String heading) {
        if (document.isEmpty()) {
            document = read(DOCUMENT);
        }
        for (String section : document.split("\n## ")) {
            if (section.startsWith(heading + ":") || section.startsWith(heading + "\n")) {
                return section.replaceAll("\\s+", " ");
            }
        }
        return "";
    }

    private static String read(Path path) {
        try {
            return Files.readString(path);
        } catch (IOException e) {
            report(path + " cannot be read");
            return "";
        }
    }

    static void same(String call, long got, long due) {
        if (got != due) {
            report(call + " answered " + got + ", due is " + due);
        }
    }

    static void same(String call, double got, double due) {
        if (got != due) {
            report(call + " answered " + got + ", due is " + due);
        }
    }

    static void same(String call, String got, String due) {
        if (!got.equals(due)) {
            report(call + "\n  left   " + got + "\n  due is " + due);
        }
    }

    static void same(String call, boolean got, boolean due) {
        if (got != due) {
            report(call + " answered " + got + ", due is " + due);
        }
    }

    static void throwsIndex(String call, Call made) {
        throwsDue(call, IndexOutOfBoundsException.class, made);
    }

    static void throwsArgument(String call, Call made) {
        throwsDue(call, IllegalArgumentException.class, made);
    }

    static void throwsState(String call, Call made) {
        throwsDue(call, IllegalStateException.class, made);
    }

    // The class itself is due, not one below it: those are what the machine throws.
    private static void throwsDue(String call, Class<?> due, Call made) {
        try {
            made.make();
        } catch (RuntimeException e) {
            if (e.getClass() != due) {
                report(call + " threw " + e.getClass().getName() + ", due is " + due.getName());
            }
            return;
        }
        report(call + " threw nothing, due is " + due.getName());
    }

    static void report(String text) {
        wrong++;
        if (wrong <= 50) {
            System.out.println(about + text);
        }
    }

    static boolean isFine() {
        return wrong == 0;
    }

    static void end() {
        System.out.println(wrong == 0 ? "all answers are as due" : wrong + " answers are not as due");
        if (wrong != 0) {
            System.exit(1);
        }
    }

    /** Appends a text, filled up with spaces to a multiple of 20 bytes. */
    static int append(TwinSets sets, String text) {
        byte[] bytes = text.getBytes(StandardCharsets.ISO_8859_1);
        int rounded = (bytes.length + 19) / 20 * 20;
        byte[] filled = Arrays.copyOf(bytes, rounded);
        Arrays.fill(filled, bytes.length, rounded, (byte) ' ');
        int answer = 0;
        for (int i = 0; i < rounded; i += 20) {
            answer = sets.append(four(filled, i), four(filled, i + 4), four(filled, i + 8),
                    four(filled, i + 12), four(filled, i + 16));
        }
        return answer;
    }

    private static int four(byte[] bytes, int from) {
        int word = 0;
        for (int i = 0; i < 4; i++) {
            word = word << 8 | bytes[from + i] & 0xFF;
        }
        return word;
    }

    static int parse(TwinSets sets, String text) {
        append(sets, text);
        return sets.parse(text.length());
    }

    /** A new object with the sets of a text that must be without an error. */
    static TwinSets sets(String text) {
        TwinSets sets = new TwinSets();
        same("parse(\"" + text + "\")", parse(sets, text), 0);
        return sets;
    }

    /** Parses a text in a new object; code 0 and position -1 are due for a text without an error. */
    static void error(String text, int code, int position) {
        TwinSets sets = new TwinSets();
        same("parse(\"" + text + "\")", parse(sets, text), code);
        same("position in \"" + text + "\"", sets.errorPosition(), position);
    }

    static int find(TwinSets sets, String text) {
        append(sets, text);
        return sets.find();
    }

    /** The members of a set in the order of their places, as "3 5 1". */
    static String members(TwinSets sets, int set) {
        StringBuilder text = new StringBuilder();
        for (int place = 0; place < sets.set(set, 0); place++) {
            text.append(place == 0 ? "" : " ").append(sets.cell(set, place, false));
        }
        return text.toString();
    }

    static void members(String call, TwinSets sets, int set, String due) {
        String got = members(sets, set);
        if (!got.equals(due)) {
            report(call + " left the members " + got + ", due are " + due);
        }
    }
}
