import java.io.IOException;
import java.lang.reflect.Constructor;
import java.lang.reflect.Field;
import java.lang.reflect.Method;
import java.lang.reflect.Modifier;
import java.nio.file.Files;
import java.nio.file.Path;
import java.util.List;
import java.util.regex.Matcher;
import java.util.regex.Pattern;

/** The rules of LANGUAGE.md that a look at the words and the shape of src/main/java/TwinSets.java can tell. */
public final class LanguageTest {
    private static final String[] FORBIDDEN = {
        "\\bcatch\\b", "\\bfinally\\b", "\\bsynchronized\\b", "\\bassert\\b", "->", "::", "\\bvar\\b",
        "\\bstatic\\s*\\{", "\\bpackage\\b", "\\bprotected\\b", "\\bequals\\b", "\\bhashCode\\b",
        "Exact\\b", "\\bThread\\b", "\\bRandom\\b", "\\bNaN\\b", "\\bObject\\b",
    };
    private static final String THROWN = "throw new (IndexOutOfBounds|IllegalArgument|IllegalState)Exception\\(\"\"\\);";
    private static final int LONGEST_METHOD = 60;
    private static final int MOST_CLASSES = 12;
    private static final int MOST_PARAMETERS = 7;
    private static final int MOST_FIELDS = 20;

    public static void main(String[] args) throws IOException {
        List<String> lines = Files.readAllLines(Path.of("src/main/java/TwinSets.java"));
        StringBuilder code = new StringBuilder();
        for (String line : lines) {
            code.append(line.replaceAll("\"[^\"]*\"", "\"\"").replaceAll("//.*", "")).append('\n');
        }
        String bare = code.toString().replaceAll("(?s)/\\*.*?\\*/", "");
        checkWords(bare);
        checkClasses(bare);
        checkMethods(bare.split("\n"));
        checkShape(TwinSets.class);
        for (Class<?> inside : TwinSets.class.getDeclaredClasses()) {
            Check.same("static: " + inside, Modifier.isStatic(inside.getModifiers()), true);
            Check.same("neither public nor protected: " + inside,
                    (inside.getModifiers() & (Modifier.PUBLIC | Modifier.PROTECTED)) == 0, true);
            checkShape(inside);
        }
        Check.end();
    }

    // Rules 5 and 11: static fields are final, and methods and classes stay small.
    private static void checkShape(Class<?> shape) {
        int fields = 0;
        for (Field field : shape.getDeclaredFields()) {
            boolean isStatic = Modifier.isStatic(field.getModifiers());
            Check.same("final: " + field, !isStatic || Modifier.isFinal(field.getModifiers()), true);
            fields += isStatic ? 0 : 1;
        }
        Check.same("at most 20 fields: " + shape, fields <= MOST_FIELDS, true);
        for (Method method : shape.getDeclaredMethods()) {
            Check.same("at most 7 parameters: " + method, method.getParameterCount() <= MOST_PARAMETERS, true);
        }
        for (Constructor<?> constructor : shape.getDeclaredConstructors()) {
            Check.same("at most 7 parameters: " + constructor, constructor.getParameterCount() <= MOST_PARAMETERS, true);
        }
    }

    private static void checkWords(String code) {
        Check.same("all signs of the source are 1 to 127", code.chars().allMatch(sign -> sign >= 1 && sign <= 127), true);
        for (String forbidden : FORBIDDEN) {
            if (Pattern.compile(forbidden).matcher(code).find()) {
                Check.report("the source holds " + forbidden);
            }
        }
        Matcher imports = Pattern.compile("import (.*);").matcher(code);
        while (imports.find()) {
            if (!imports.group(1).matches("java\\.util\\.(Arrays|ArrayList|List|Iterator|NoSuchElementException)")) {
                Check.report("the source imports " + imports.group(1));
            }
        }
        if (Pattern.compile("\\bthrow\\b").matcher(code.replaceAll(THROWN, "")).find()) {
            Check.report("the source throws in another form than " + THROWN);
        }
    }

    private static void checkClasses(String code) {
        long classes = Pattern.compile("\\b(class|enum|interface|record) [A-Z]").matcher(code).results().count();
        Check.same("at most 12 classes", classes <= MOST_CLASSES, true);
    }

    // A method of this source begins at a line that ends with ") {" or "Exception {" and names no statement.
    private static void checkMethods(String[] lines) {
        int start = -1;
        String end = "";
        for (int i = 0; i < lines.length; i++) {
            boolean begins = lines[i].matches("^( {4}){1,2}[a-zA-Z].*(\\)|Exception) \\{");
            if (begins && start < 0) {
                start = i;
                end = lines[i].replaceAll("\\S.*", "") + "}";
            } else if (start >= 0 && lines[i].equals(end)) {
                if (i - start > LONGEST_METHOD) {
                    Check.report("a method of more than 60 lines: " + lines[start].trim());
                }
                start = -1;
            }
        }
    }
}
