import java.lang.reflect.Constructor;
import java.lang.reflect.Field;
import java.lang.reflect.Method;
import java.lang.reflect.Modifier;
import java.util.TreeSet;

/** The public face is the document's, and there is no other public, protected or package-visible member. */
public final class FaceTest {
    private static final String[] FACE = {
        "public static final int NONE",
        "public TwinSets()",
        "public int append(int,int,int,int,int)",
        "public int parse(int) throws IllegalArgumentException",
        "public int errorPosition()",
        "public int size(int) throws IllegalArgumentException",
        "public int find()",
        "public int marked(int)",
        "public int set(int,int) throws IndexOutOfBoundsException,IllegalArgumentException",
        "public int cell(int,int,boolean) throws IndexOutOfBoundsException,IllegalArgumentException",
        "public int place(int,int) throws IndexOutOfBoundsException",
        "public int stampOf(int,int) throws IndexOutOfBoundsException",
        "public int event(int,int,int) throws IndexOutOfBoundsException,IllegalArgumentException",
        "public long at(int,int) throws IndexOutOfBoundsException,IllegalArgumentException",
        "public int differs(int,int,int,boolean) throws IndexOutOfBoundsException,IllegalArgumentException",
        "public int since(int,int) throws IndexOutOfBoundsException,IllegalArgumentException",
        "public int fullest(int) throws IndexOutOfBoundsException",
        "public int cursor(int,int) throws IndexOutOfBoundsException,IllegalArgumentException",
        "public int ahead(int) throws IndexOutOfBoundsException",
        "public int common(int,int) throws IndexOutOfBoundsException",
        "public boolean isWithin(int,int) throws IndexOutOfBoundsException",
        "public double likeness(int,int) throws IndexOutOfBoundsException",
        "public int add(int,int) throws IndexOutOfBoundsException,IllegalArgumentException",
        "public boolean remove(int,int) throws IndexOutOfBoundsException,IllegalArgumentException",
        "public int clear(int) throws IndexOutOfBoundsException",
        "public int mark() throws IllegalStateException",
        "public int open(int,boolean) throws IndexOutOfBoundsException,IllegalStateException",
        "public int close(int) throws IndexOutOfBoundsException",
        "public int step(int) throws IndexOutOfBoundsException",
        "public int removeMet(int) throws IndexOutOfBoundsException,IllegalStateException",
        "public int keep(int,int) throws IndexOutOfBoundsException",
        "public int unite(int,int) throws IndexOutOfBoundsException",
        "public int undo()",
        "public boolean saveSnapshot(int) throws IndexOutOfBoundsException",
        "public int restoreSnapshot(int) throws IndexOutOfBoundsException,IllegalStateException",
    };

    public static void main(String[] args) {
        Check.same("NONE", TwinSets.NONE, -1);
        Check.same("modifiers of the class", TwinSets.class.getModifiers(), Modifier.PUBLIC | Modifier.FINAL);
        TreeSet<String> due = new TreeSet<>();
        for (String member : FACE) {
            due.add(member);
        }
        compare("the class", members(), due);
        if (Check.hasDocument()) {
            compare("the document", documentedMembers(), due);
        }
        checkPrivateNames();
        Check.end();
    }

    private static void compare(String where, TreeSet<String> got, TreeSet<String> due) {
        for (String member : due) {
            Check.same(where + " has " + member, got.contains(member), true);
        }
        for (String member : got) {
            Check.same(where + " has, beyond the face, " + member, due.contains(member), true);
        }
    }

    // The face as the document writes it, without the names of the parameters and the value of NONE.
    private static TreeSet<String> documentedMembers() {
        String section = Check.section("The public face");
        TreeSet<String> members = new TreeSet<>();
        for (String member : section.substring(section.indexOf('{') + 1, section.lastIndexOf('}')).split(";")) {
            if (!member.isBlank()) {
                members.add(member.trim().replace(" = -1", "").replaceAll("(int|boolean) \\w+([,)])", "$1$2").replace(", ", ","));
            }
        }
        return members;
    }

    private static TreeSet<String> members() {
        TreeSet<String> got = new TreeSet<>();
        for (Field field : TwinSets.class.getDeclaredFields()) {
            if (isSeen(field.getModifiers(), field.isSynthetic())) {
                got.add(shortened(field.toString()));
            }
        }
        for (Constructor<?> constructor : TwinSets.class.getDeclaredConstructors()) {
            if (isSeen(constructor.getModifiers(), constructor.isSynthetic())) {
                got.add(shortened(constructor.toString()));
            }
        }
        for (Method method : TwinSets.class.getDeclaredMethods()) {
            if (isSeen(method.getModifiers(), method.isSynthetic())) {
                got.add(shortened(method.toString()));
            }
        }
        return got;
    }

    private static boolean isSeen(int modifiers, boolean isSynthetic) {
        return !Modifier.isPrivate(modifiers) && !isSynthetic;
    }

    private static String shortened(String member) {
        return member.replace("TwinSets.", "").replace("java.lang.", "");
    }

    // LANGUAGE.md, rule 1: no private method bears the name of a public one.
    private static void checkPrivateNames() {
        TreeSet<String> names = new TreeSet<>();
        for (Method method : TwinSets.class.getDeclaredMethods()) {
            if (Modifier.isPublic(method.getModifiers())) {
                names.add(method.getName());
            }
        }
        for (Method method : TwinSets.class.getDeclaredMethods()) {
            if (!Modifier.isPublic(method.getModifiers()) && names.contains(method.getName())) {
                Check.report("a private method is named " + method.getName());
            }
        }
    }
}
