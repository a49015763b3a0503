import java.lang.reflect.InvocationTargetException;
import java.lang.reflect.Method;
import java.util.ArrayList;
import java.util.Arrays;
import java.util.HashMap;
import java.util.List;
import java.util.Map;
import java.util.TreeSet;

/**
 * In some states, each method is called with every combination of arguments at the boundaries and compared
 * with the Model; after calls that were refused, and after each that was not, the whole state is compared too.
 */
public final class EdgeGridTest {
    /** With the calls of a state and its comparison, an object stays below 512 calls. */
    private static final int REFUSED_CALLS_OF_AN_OBJECT = 150;
    private static final int QUESTIONS_OF_AN_OBJECT = 250;
    private static final int LEAST = Integer.MIN_VALUE;
    private static final int MOST = Integer.MAX_VALUE;
    private static final int[] TICKS = {LEAST, -1, 0, 1, 2, 4, 5, 6, 99, 100, 101, 199, 200, 201, MOST};
    private static final int[] LABELS = {LEAST, -1, 0, 2, 3, 7, 9, 999, 1000, MOST};
    private static final int[] VALUES = {LEAST, -1000001, -1000000, 0, 1000000, 1000001, MOST};

    private static final Map<String, Method> METHODS = new HashMap<>();
    private static int combinations;
    private static int wrong;

    private record Call(String name, Object... arguments) {
        String on(Object object) {
            try {
                return String.valueOf(method(object.getClass(), name).invoke(object, arguments));
            } catch (InvocationTargetException e) {
                return e.getCause().getClass().getName();
            } catch (IllegalAccessException e) {
                return e.toString();
            }
        }

        String text() {
            return name + Arrays.toString(arguments);
        }
    }

    private final String title;
    private final List<Call> state;
    private LeasedTree real;
    private Model model;
    private int refused;

    private EdgeGridTest(String title, List<Call> state) {
        this.title = title;
        this.state = state;
    }

    public static void main(String[] args) {
        new EdgeGridTest("new", List.of()).run();
        new EdgeGridTest("plain", plain()).run();
        new EdgeGridTest("leased", leased()).run();
        new EdgeGridTest("quarrel", quarrel()).run();
        new EdgeGridTest("last ticks", lastTicks()).run();
        new EdgeGridTest("full", full()).run();
        System.out.println("EdgeGridTest: " + combinations + " combinations, " + wrong + " wrong");
        System.exit(wrong == 0 && combinations > 0 ? 0 : 1);
    }

    private static Method method(Class<?> of, String name) {
        return METHODS.computeIfAbsent(of.getName() + "." + name, key -> {
            for (Method m : of.getDeclaredMethods()) {
                if (m.getName().equals(name) && !java.lang.reflect.Modifier.isPrivate(m.getModifiers())) {
                    return m;
                }
            }
            throw new IllegalStateException("no method " + key);
        });
    }

    private static List<Call> plain() {
        List<Call> calls = new ArrayList<>();
        addText(calls, Worlds.SETUP);
        calls.add(new Call("load"));
        return calls;
    }

    private static void addText(List<Call> calls, String text) {
        for (int at = 0; at < text.length(); at += 20) {
            Object[] words = new Object[5];
            for (int w = 0; w < 5; w++) {
                int word = 0;
                for (int i = at + 4 * w; i < at + 4 * w + 4; i++) {
                    word = word << 8 | (i < text.length() ? text.charAt(i) : 0);
                }
                words[w] = word;
            }
            calls.add(new Call("append", words));
        }
    }

    private static List<Call> leased() {
        List<Call> calls = plain();
        addText(calls, "client;dir 0 5");
        calls.add(new Call("save"));
        calls.add(new Call("lease", 0, 1, 5, false));
        calls.add(new Call("lease", 1, 5, 6, true));
        calls.add(new Call("setField", 0, 2, 0, 11));
        calls.add(new Call("addNode", 0, 1, 9, false));
        calls.add(new Call("addNode", 0, 7, 9, true));
        calls.add(new Call("removeNode", 0, 3));
        return calls;
    }

    private static List<Call> quarrel() {
        List<Call> calls = plain();
        addText(calls, "client;");
        calls.add(new Call("lease", 0, 0, 50, false));
        calls.add(new Call("lease", 1, 0, 50, false));
        calls.add(new Call("setField", 0, 2, 1, 1));
        calls.add(new Call("addNode", 0, 0, 7, true));
        calls.add(new Call("addNode", 1, 0, 7, false));
        calls.add(new Call("addNode", 1, 8, 0, true));
        calls.add(new Call("removeNode", 0, 3));
        calls.add(new Call("setField", 0, 6, 2, 5));
        calls.add(new Call("setField", 1, 2, 1, 2));
        calls.add(new Call("setField", 1, 4, 2, 9));
        calls.add(new Call("removeNode", 1, 6));
        calls.add(new Call("commit", 0));
        calls.add(new Call("commit", 1));
        calls.add(new Call("advance", 2));
        calls.add(new Call("lease", 0, 0, 4, false));
        calls.add(new Call("lease", 1, 1, 4, false));
        calls.add(new Call("setField", 0, 2, 1, 8));
        calls.add(new Call("setField", 1, 2, 1, 9));
        return calls;
    }

    private static List<Call> lastTicks() {
        List<Call> calls = plain();
        for (int i = 0; i < 49; i++) {
            calls.add(new Call("advance", 200));
        }
        calls.add(new Call("lease", 0, 1, 6, true));
        calls.add(new Call("advance", 5));
        calls.add(new Call("renew", 0, 95));
        calls.add(new Call("advance", 94));
        calls.add(new Call("advance", 95));
        calls.add(new Call("lease", 2, 0, 4, true));
        return calls;
    }

    private static List<Call> full() {
        List<Call> calls = plain();
        calls.add(new Call("lease", 0, 0, 90, false));
        calls.add(new Call("lease", 1, 1, 6, false));
        for (int n = 7; n < 60; n++) {
            calls.add(new Call("addNode", 0, n % 3 == 0 ? 5 : 0, 100 + n, n > 20));
        }
        return calls;
    }

    private void renew() {
        real = new LeasedTree();
        model = new Model();
        refused = 0;
        for (Call call : state) {
            compare(call);
        }
    }

    private boolean compare(Call call) {
        String got = call.on(real);
        String want = call.on(model);
        if (!got.equals(want)) {
            wrong++;
            System.out.println(title + ": " + call.text() + " answered " + got + ", the model " + want);
        }
        return want.startsWith("java");
    }

    private void run() {
        renew();
        int clients = model.setup(1);
        int nodes = model.nodeCount();
        int fields = model.setup(0);
        int[] c = values(clients, 0, 1, 2);
        int[] n = values(nodes, 0, 1, 2, 3, 4, 5, 6, 7, 8, 59, 60, 63, 64);
        int[] f = values(fields, 0, 1, 2, 5, 6);
        int[] k = values(model.conflictCount(), 0, 1, 2, 3, 39, 40);
        int[] what = values(6, 0, 1, 2, 3, 4, 5);
        int[] truth = {0, 1};
        changes(c, n, f, k, truth);
        each("truncate", values(model.append(0, 0, 0, 0, 0), 0, 1, 600, 601));
        for (String name : List.of("errorPosition", "load", "undo", "undoCount", "save", "restore", "tick", "nodeCount",
                "nextEnd", "conflictCount")) {
            each(name);
        }
        each("setup", what);
        each("rule", f);
        each("node", n, what);
        each("childCount", n);
        each("child", n, values(nodes, 0, 1, 2, 3, 4));
        each("find", n, LABELS);
        each("walk", n, values(nodes, 0, 1, 2, 3, 4));
        each("size", n);
        for (String name : List.of("field", "total", "greatest")) {
            each(name, n, f);
        }
        each("leased", c, what);
        each("blockers", c, n, truth);
        each("isInCopy", c, n);
        each("copyField", c, n, f);
        each("wouldBe", c, n, f);
        each("changedCount", c);
        each("preview", c);
        each("isFree", c, c);
        each("conflict", k, what);
        each("conflictsOf", what);
        compareAll();
    }

    private void changes(int[] c, int[] n, int[] f, int[] k, int[] truth) {
        each("lease", c, n, TICKS, truth);
        each("renew", c, TICKS);
        each("setField", c, n, f, VALUES);
        each("addNode", c, n, LABELS, truth);
        each("removeNode", c, n);
        each("commit", c);
        each("abandon", c);
        each("resolve", k, truth);
        each("advance", TICKS);
    }

    /** The given values, those round the count, and the extremes. */
    private static int[] values(int count, int... more) {
        TreeSet<Integer> all = new TreeSet<>(List.of(LEAST, -1, count - 1, count, count + 1, MOST));
        for (int value : more) {
            all.add(value);
        }
        return all.stream().mapToInt(Integer::intValue).toArray();
    }

    private void each(String name, int[]... choices) {
        int count = 1;
        for (int[] choice : choices) {
            count *= choice.length;
        }
        Class<?>[] types = method(LeasedTree.class, name).getParameterTypes();
        for (int i = 0; i < count; i++) {
            Object[] arguments = new Object[choices.length];
            int rest = i;
            for (int p = 0; p < choices.length; p++) {
                int value = choices[p][rest % choices[p].length];
                arguments[p] = types[p] == boolean.class ? (Object) (value == 1) : (Object) value;
                rest /= choices[p].length;
            }
            one(new Call(name, arguments));
        }
    }

    private void one(Call call) {
        combinations++;
        boolean threw = compare(call);
        refused++;
        boolean changes = !threw && isAction(call.name());
        if (changes || refused >= REFUSED_CALLS_OF_AN_OBJECT) {
            compareAll();
        }
    }

    private static boolean isAction(String name) {
        return List.of("truncate", "load", "lease", "renew", "setField", "addNode", "removeNode", "commit", "abandon",
                "resolve", "advance", "undo", "restore", "save").contains(name);
    }

    private void compareAll() {
        int asked = 0;
        for (Call question : questions()) {
            compare(question);
            asked++;
            if (asked >= QUESTIONS_OF_AN_OBJECT) {
                break;
            }
        }
        for (int i = 0; i < 9; i++) {
            compare(new Call("undo"));
            compare(new Call("tick"));
        }
        compare(new Call("restore"));
        compare(new Call("tick"));
        renew();
    }

    private List<Call> questions() {
        List<Call> all = new ArrayList<>();
        for (String name : List.of("tick", "undoCount", "errorPosition", "nodeCount", "conflictCount", "nextEnd")) {
            all.add(new Call(name));
        }
        all.add(new Call("append", 0, 0, 0, 0, 0));
        for (int c = 0; c < model.setup(1); c++) {
            for (int what = 0; what < 3; what++) {
                all.add(new Call("leased", c, what));
            }
            all.add(new Call("changedCount", c));
            all.add(new Call("preview", c));
        }
        for (int i = 0; i < Math.min(model.conflictCount(), 6); i++) {
            for (int what = 0; what < 6; what++) {
                all.add(new Call("conflict", i, what));
            }
        }
        for (int n = model.nodeCount() - 1; n >= 0; n--) {
            addNode(all, n);
        }
        return all;
    }

    private void addNode(List<Call> all, int n) {
        all.add(new Call("node", n, 3));
        all.add(new Call("walk", 0, n));
        for (int c = 0; c < model.setup(1); c++) {
            all.add(new Call("isInCopy", c, n));
        }
        for (int f = 0; f < model.setup(0); f++) {
            all.add(new Call("field", n, f));
            all.add(new Call("copyField", 0, n, f));
            all.add(new Call("wouldBe", 0, n, f));
        }
    }
}
