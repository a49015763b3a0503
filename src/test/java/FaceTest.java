import java.io.IOException;
import java.lang.reflect.Constructor;
import java.lang.reflect.Field;
import java.lang.reflect.Method;
import java.lang.reflect.Modifier;
import java.nio.charset.StandardCharsets;
import java.nio.file.Files;
import java.nio.file.Path;
import java.util.Set;
import java.util.TreeSet;

/** The public face to the letter, and those rules of LANGUAGE.md that can be seen from outside or by words. */
public final class FaceTest {
    private static final String[] METHODS = {
        "int append(int,int,int,int,int) IllegalStateException",
        "int truncate(int) IllegalArgumentException",
        "int errorPosition()",
        "int load() IllegalArgumentException",
        "int lease(int,int,int,boolean) IndexOutOfBoundsException IllegalArgumentException IllegalStateException",
        "int renew(int,int) IndexOutOfBoundsException IllegalArgumentException IllegalStateException",
        "int setField(int,int,int,int) IndexOutOfBoundsException IllegalArgumentException IllegalStateException",
        "int addNode(int,int,int,boolean) IndexOutOfBoundsException IllegalArgumentException IllegalStateException",
        "int removeNode(int,int) IndexOutOfBoundsException IllegalStateException",
        "int commit(int) IndexOutOfBoundsException IllegalStateException",
        "int abandon(int) IndexOutOfBoundsException IllegalStateException",
        "int resolve(int,boolean) IndexOutOfBoundsException IllegalStateException",
        "int advance(int) IllegalArgumentException",
        "int undo() IllegalStateException",
        "int undoCount()",
        "int save()",
        "int restore() IllegalStateException",
        "int tick()",
        "int setup(int) IllegalArgumentException",
        "int rule(int) IndexOutOfBoundsException",
        "int nodeCount()",
        "int node(int,int) IndexOutOfBoundsException IllegalArgumentException",
        "int field(int,int) IndexOutOfBoundsException",
        "int childCount(int) IndexOutOfBoundsException",
        "int child(int,int) IndexOutOfBoundsException",
        "int find(int,int) IndexOutOfBoundsException NoSuchElementException",
        "int walk(int,int) IndexOutOfBoundsException",
        "int size(int) IndexOutOfBoundsException",
        "long total(int,int) IndexOutOfBoundsException",
        "int greatest(int,int) IndexOutOfBoundsException NoSuchElementException",
        "int leased(int,int) IndexOutOfBoundsException IllegalArgumentException",
        "int blockers(int,int,boolean) IndexOutOfBoundsException",
        "int nextEnd() NoSuchElementException",
        "boolean isInCopy(int,int) IndexOutOfBoundsException IllegalStateException",
        "int copyField(int,int,int) IndexOutOfBoundsException IllegalStateException",
        "int changedCount(int) IndexOutOfBoundsException IllegalStateException",
        "int preview(int) IndexOutOfBoundsException IllegalStateException",
        "int wouldBe(int,int,int) IndexOutOfBoundsException IllegalStateException NoSuchElementException",
        "boolean isFree(int,int) IndexOutOfBoundsException IllegalArgumentException IllegalStateException",
        "int conflictCount()",
        "int conflict(int,int) IndexOutOfBoundsException IllegalArgumentException",
        "int conflictsOf(int) IllegalArgumentException",
    };

    private static final String[] FORBIDDEN = {"->", "::", "catch", "finally", "synchronized", "assert ", "instanceof",
        "@", "Exact(", "System.out", "package ", "import java.io", "import java.util.*", "\"\"\"", "protected"};

    public static void main(String[] args) throws IOException {
        face();
        nestedClasses();
        source();
        Due.end("FaceTest");
    }

    private static void face() {
        Set<String> due = new TreeSet<>(Set.of(METHODS));
        Set<String> names = new TreeSet<>();
        Set<String> own = new TreeSet<>();
        for (Method m : LeasedTree.class.getDeclaredMethods()) {
            if (Modifier.isPrivate(m.getModifiers())) {
                own.add(m.getName());
            } else if (!m.isSynthetic()) {
                names.add(m.getName());
                due("method " + signature(m), due.remove(signature(m)) && Modifier.isPublic(m.getModifiers()));
            }
        }
        due("no method is missing: " + due, due.isEmpty());
        own.retainAll(names);
        due("no private method bears a public name: " + own, own.isEmpty());
        for (Field f : LeasedTree.class.getDeclaredFields()) {
            due("field " + f.getName(), Modifier.isPrivate(f.getModifiers()) || f.getName().equals("NONE"));
            due("static " + f.getName(), !Modifier.isStatic(f.getModifiers()) || Modifier.isFinal(f.getModifiers()));
        }
        Constructor<?>[] constructors = LeasedTree.class.getDeclaredConstructors();
        due("one constructor", constructors.length == 1 && constructors[0].getParameterCount() == 0);
        int modifiers = Modifier.PUBLIC | Modifier.FINAL;
        due("public final class", (LeasedTree.class.getModifiers() & modifiers) == modifiers);
    }

    private static void due(String what, boolean holds) {
        Due.is(what, holds, true);
    }

    private static String signature(Method m) {
        StringBuilder text = new StringBuilder(m.getReturnType().getName()).append(' ').append(m.getName()).append('(');
        for (int i = 0; i < m.getParameterCount(); i++) {
            text.append(i == 0 ? "" : ",").append(m.getParameterTypes()[i].getName());
        }
        text.append(')');
        for (Class<?> e : m.getExceptionTypes()) {
            text.append(' ').append(e.getSimpleName());
        }
        return text.toString();
    }

    private static void nestedClasses() {
        Class<?>[] nested = LeasedTree.class.getDeclaredClasses();
        due("at most twelve classes", nested.length < 12);
        for (Class<?> c : nested) {
            due(c + " is not public", !Modifier.isPublic(c.getModifiers()));
            due(c + " is static", Modifier.isStatic(c.getModifiers()));
            due(c + " has at most twenty fields", c.getDeclaredFields().length <= 20);
            for (Method m : c.getDeclaredMethods()) {
                due(m + " has at most seven parameters", m.getParameterCount() <= 7);
            }
        }
    }

    private static void source() throws IOException {
        String text = Files.readString(Path.of("src/main/java/LeasedTree.java"), StandardCharsets.ISO_8859_1);
        for (String word : FORBIDDEN) {
            due("the program does without '" + word + "'", !text.contains(word));
        }
        due("the program is plain ASCII", text.chars().allMatch(sign -> sign < 127));
    }
}
