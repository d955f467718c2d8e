import java.io.IOException;
import java.lang.reflect.Method;
import java.lang.reflect.Modifier;
import java.nio.file.Files;
import java.nio.file.Path;
import java.util.List;

/** The example of README.md: it stands here as it stands there, and answers what it says. */
public final class ReadmeTest {
    private static final int EXAMPLE_LINES = 13;

    public static void main(String[] args) throws IOException {
        example();
        String readme = Files.readString(Path.of("README.md"));
        List<String> source = Files.readAllLines(Path.of("src/test/java/ReadmeTest.java"));
        StringBuilder block = new StringBuilder("```java\n");
        int first = source.indexOf("        TwinSets sets = new TwinSets();");
        for (int i = first; i < first + EXAMPLE_LINES; i++) {
            block.append(source.get(i).trim()).append('\n');
        }
        block.append("```\n");
        Check.same("README.md holds the example of this test", readme.contains(block), true);
        checkCalls(readme);
        Check.end();
    }

    private static void example() {
        TwinSets sets = new TwinSets();
        sets.append(0x73657473, 0x20382035, 0x3B736574, 0x20613B61, 0x64642061);   // "sets 8 5;set a;add a"
        sets.append(0x20332035, 0x3B202020, 0x20202020, 0x20202020, 0x20202020);   // " 3 5;" and spaces: 40 bytes
        int code = sets.parse(25);        // 0: no error
        sets.append(0x61202020, 0x20202020, 0x20202020, 0x20202020, 0x20202020);   // "a" and spaces
        int set = sets.find();            // 0: the first set is named a
        int cursor = sets.open(set, false); // 0: the first cursor
        int first = sets.step(cursor);    // 3
        sets.remove(set, 3);              // 5 takes its place, and is still ahead of the cursor
        int second = sets.step(cursor);   // 5
        sets.undo();                      // 3: the step is undone; the removal, the first step and open are left
        long now = sets.at(set, 3);       // 32: bit 5 alone, as 3 went with the stamp 3
        long before = sets.at(set, 2);    // 40: the bits 3 and 5
        Check.same("code", code, 0);
        Check.same("set", set, 0);
        Check.same("cursor", cursor, 0);
        Check.same("first", first, 3);
        Check.same("second", second, 5);
        Check.same("changes that can be undone", sets.size(7), 3);
        Check.same("members ahead", sets.ahead(cursor), 1);
        Check.same("place of 5", sets.place(set, 5), 0);
        Check.same("now", now, 32);
        Check.same("before", before, 40);
    }

    // The table of README.md has a row for every call of the face.
    private static void checkCalls(String readme) {
        for (Method method : TwinSets.class.getDeclaredMethods()) {
            if (Modifier.isPublic(method.getModifiers())) {
                Check.same("README.md tells what " + method.getName() + " answers",
                        readme.contains("\n| `" + method.getName() + "("), true);
            }
        }
    }
}
