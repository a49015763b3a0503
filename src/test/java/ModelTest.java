import java.lang.reflect.InvocationTargetException;
import java.lang.reflect.Method;
import java.util.ArrayList;
import java.util.Arrays;
import java.util.List;
import java.util.Random;

/** Random runs of up to 512 calls (with seeds that are written down), compared with the Model call by call. */
public final class ModelTest {
    private static final int RUNS = 1500;
    private static final int CALLS = 512;
    private static final int[] WILD = {Integer.MIN_VALUE, Integer.MAX_VALUE, -1, -2, 60, 64, 1000, 1000001, -1000001};
    private static final String[] RULES = {"sum", "max", "min", "bits", "first", "last"};
    private static final String[] PIECES = {"field", "client", "dir", "record", "value", "sum", "max", "last", ";",
        "-", " ", "0", "1", "2", "999", "1000", "1000000", "1000001", "0000001", "00000001", "x", "A", "\t"};

    private final Random random;
    private final LeasedTree real = new LeasedTree();
    private final Model model = new Model();
    private final List<String> calls = new ArrayList<>();
    private final List<Method> observers = new ArrayList<>();
    private boolean failed;

    private ModelTest(long seed) {
        random = new Random(seed);
        for (Method m : LeasedTree.class.getDeclaredMethods()) {
            if (java.lang.reflect.Modifier.isPublic(m.getModifiers())) {
                observers.add(m);
            }
        }
        observers.removeIf(m -> List.of("append", "truncate", "load", "restore", "save", "undo", "lease", "renew",
                "setField", "addNode", "removeNode", "commit", "abandon", "resolve", "advance").contains(m.getName()));
        // The order of reflection is not told; the runs are to be the same everywhere.
        observers.sort(java.util.Comparator.comparing(Method::getName));
    }

    public static void main(String[] args) {
        int wrong = 0;
        long asked = 0;
        for (int seed = 1; seed <= RUNS && wrong < 3; seed++) {
            ModelTest test = new ModelTest(seed);
            test.run(seed % 10 == 0);
            asked += test.calls.size();
            if (test.failed) {
                wrong++;
                System.out.println("seed " + seed + ": " + test.calls);
            }
        }
        System.out.println("ModelTest: " + asked + " answers in " + RUNS + " runs, " + wrong + " runs wrong");
        System.exit(wrong == 0 ? 0 : 1);
    }

    private void run(boolean textsOnly) {
        while (calls.size() < CALLS && !failed) {
            if (textsOnly || calls.isEmpty() || random.nextInt(400) == 0) {
                oneText(textsOnly || random.nextInt(8) == 0);
            } else if (random.nextInt(5) < 3) {
                change();
            } else {
                Method m = observers.get(random.nextInt(observers.size()));
                call(m.getName(), arguments(m));
            }
        }
    }

    private void oneText(boolean broken) {
        String text = broken ? brokenText() : validText();
        for (int at = 0; at < text.length() && !failed; at += 20) {
            int[] words = new int[5];
            for (int i = at; i < Math.min(at + 20, text.length()); i++) {
                words[(i - at) / 4] |= (text.charAt(i) & 255) << 24 - (i - at) % 4 * 8;
            }
            call("append", words[0], words[1], words[2], words[3], words[4]);
        }
        call("errorPosition");
        call("load");
        if (random.nextBoolean()) {
            call("truncate", random.nextInt(4) == 0 ? random.nextInt(600) : 0);
        }
    }

    private String validText() {
        List<String> rules = new ArrayList<>();
        StringBuilder text = new StringBuilder();
        int fields = 1 + random.nextInt(6);
        boolean strict = random.nextInt(3) == 0;
        for (int f = 0; f < fields; f++) {
            text.append("field ").append(RULES[strict ? 4 : random.nextInt(6)]).append(';');
        }
        text.append("client;".repeat(2 + random.nextInt(4)));
        List<Integer> parents = new ArrayList<>(List.of(0));
        int nodes = 1 + random.nextInt(random.nextInt(4) == 0 ? 30 : 10);
        for (int n = 1; n <= nodes; n++) {
            boolean record = random.nextInt(5) < 3;
            int parent = parents.get(random.nextInt(parents.size()));
            // Labels count downwards, so that no two are equal and their order is not that of the numbers.
            text.append(record ? "record " : "dir ").append(parent).append(' ').append(40 - n).append(';');
            if (record) {
                rules.add("value " + n + " " + random.nextInt(fields) + " " + smallValue() + ";");
            } else {
                parents.add(n);
            }
        }
        for (int i = 0; i < rules.size() && i < 8; i++) {
            text.append(rules.get(i));
        }
        return text.substring(0, text.length() - 1);
    }

    private String brokenText() {
        StringBuilder text = new StringBuilder(random.nextBoolean() ? validText() : "client;record 0 1;field min;");
        int edits = 1 + random.nextInt(4);
        for (int i = 0; i < edits; i++) {
            int at = random.nextInt(3) == 0 ? text.length() : random.nextInt(text.length() + 1);
            String piece = PIECES[random.nextInt(PIECES.length)];
            if (random.nextInt(3) == 0) {
                text.delete(at, Math.min(text.length(), at + 1 + random.nextInt(3)));
            } else {
                text.insert(at, random.nextBoolean() ? piece : " " + piece + " ");
            }
        }
        return text.toString();
    }

    private void change() {
        int client = client(true);
        switch (random.nextInt(52)) {
            case 0, 1, 2, 3, 4, 5, 6 -> call("lease", client(false), random.nextInt(4) == 0 ? node() : 0, ticks(),
                    random.nextInt(12) == 0);
            case 7, 8 -> call("renew", client, ticks());
            case 9, 10, 11, 12, 13, 14 -> call("addNode", client, nodeInCopy(client, 0), label(), random.nextBoolean());
            case 15, 16 -> call("removeNode", client, nodeInCopy(client, random.nextInt(2)));
            case 17, 18, 19 -> call("commit", client);
            case 20 -> call(random.nextInt(2) == 0 ? "abandon" : "commit", client);
            case 21, 22 -> call("resolve", index(model.conflictCount()), random.nextInt(3) > 0);
            case 23 -> call("advance", ticks());
            case 24 -> call("undo");
            case 25 -> undoSome();
            default -> call("setField", client, nodeInCopy(client, 1), field(), value());
        }
    }

    private void undoSome() {
        int which = random.nextInt(8);
        if (which < 2) {
            call(which == 0 ? "save" : "restore");
            return;
        }
        for (int i = 0; i < which; i++) {
            call("undo");
        }
    }

    private Object[] arguments(Method m) {
        Object[] arguments = new Object[m.getParameterCount()];
        for (int i = 0; i < arguments.length; i++) {
            arguments[i] = argument(m.getName(), i);
        }
        return arguments;
    }

    /** The i-th argument of an observer, mostly one that is there. */
    private Object argument(String name, int i) {
        switch (name) {
            case "setup", "conflictsOf":
                return index(5);
            case "rule":
                return field();
            case "leased":
                return i == 0 ? client() : index(3);
            case "conflict":
                return i == 0 ? index(model.conflictCount()) : index(6);
            case "isFree", "preview", "changedCount":
                return client(true);
            case "isInCopy", "copyField", "wouldBe", "blockers":
                return i == 0 ? client(true) : i == 1 ? node() : name.equals("blockers") ? random.nextBoolean() : (Object) field();
            case "node":
                return i == 0 ? node() : index(5);
            case "child", "walk":
                return i == 0 ? random.nextInt(2) == 0 ? 0 : node() : index(name.equals("walk") ? 8 : 3);
            case "find":
                return i == 0 ? random.nextInt(2) == 0 ? 0 : node() : label();
            default:
                return i == 0 ? node() : field();
        }
    }

    private int index(int count) {
        return random.nextInt(20) == 0 ? WILD[random.nextInt(WILD.length)] : random.nextInt(count + 1);
    }

    private int client() {
        return random.nextInt(30) == 0 ? index(5) : random.nextInt(Math.max(1, model.setup(1)));
    }

    /** A client that has a lease, or one that has none, mostly. */
    private int client(boolean leased) {
        int client = client();
        for (int i = 0; i < 8 && client >= 0 && client < model.setup(1); i++) {
            if (model.leased(client, 0) >= 0 == leased) {
                return client;
            }
            client = random.nextInt(model.setup(1));
        }
        return client;
    }

    /** A node in the copy of a client that is a directory (0) or a record (1), mostly. */
    private int nodeInCopy(int client, int record) {
        int node = node();
        boolean there = client >= 0 && client < model.setup(1) && model.leased(client, 0) >= 0;
        for (int i = 0; i < 20 && there && node >= 0 && node < model.nodeCount(); i++) {
            if (model.isInCopy(client, node) && model.node(node, 2) == record) {
                return node;
            }
            node = random.nextInt(model.nodeCount());
        }
        return node;
    }

    private int node() {
        return random.nextInt(30) == 0 ? index(60) : random.nextInt(model.nodeCount());
    }

    private int field() {
        return random.nextInt(30) == 0 ? index(6) : random.nextInt(Math.max(1, model.setup(0)));
    }

    private int label() {
        return random.nextInt(20) == 0 ? index(1000) : random.nextInt(random.nextBoolean() ? 6 : 45);
    }

    private int ticks() {
        return random.nextInt(20) == 0 ? index(250) : 1 + random.nextInt(random.nextInt(3) == 0 ? 12 : 100);
    }

    private int smallValue() {
        return random.nextInt(9) - 4;
    }

    private int value() {
        int kind = random.nextInt(20);
        return kind == 0 ? index(2000000) : kind == 1 ? random.nextInt(2000001) - 1000000 : smallValue();
    }

    private void call(String name, Object... arguments) {
        if (calls.size() >= CALLS || failed) {
            return;
        }
        String got = answer(real, name, arguments);
        String want = answer(model, name, arguments);
        calls.add(name + Arrays.toString(arguments) + " = " + got);
        if (!got.equals(want)) {
            failed = true;
            System.out.println(name + Arrays.toString(arguments) + " answered " + got + ", the model " + want);
        }
    }

    private static String answer(Object of, String name, Object[] arguments) {
        for (Method m : of.getClass().getDeclaredMethods()) {
            if (m.getName().equals(name) && m.getParameterCount() == arguments.length
                    && !java.lang.reflect.Modifier.isPrivate(m.getModifiers())) {
                try {
                    return String.valueOf(m.invoke(of, arguments));
                } catch (InvocationTargetException e) {
                    return e.getCause().getClass().getName();
                } catch (IllegalAccessException e) {
                    return e.toString();
                }
            }
        }
        return "no method " + name;
    }
}
