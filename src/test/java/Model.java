import java.util.ArrayList;
import java.util.List;
import java.util.NoSuchElementException;
import java.util.SortedMap;
import java.util.TreeMap;
import java.util.regex.Matcher;
import java.util.regex.Pattern;

/** A second program after the same document, with other means (maps and clones), to compare answers with. */
final class Model {
    private static final List<String> RULES = List.of("sum", "max", "min", "bits", "first", "last");

    private record Node(int parent, int label, boolean record) {
    }

    private record Conflict(int kind, int node, int field, int value, int client, int tick) {
        int part(int what) {
            return new int[] {kind, node, field, value, client, tick}[what];
        }
    }

    private static final class Lease {
        int node;
        int end;
        boolean exclusive;
        List<Integer> added = new ArrayList<>();
        SortedMap<Integer, List<Integer>> base = new TreeMap<>();
        SortedMap<Integer, List<Integer>> copy = new TreeMap<>();

        Lease twin() {
            Lease l = new Lease();
            l.node = node;
            l.end = end;
            l.exclusive = exclusive;
            l.added.addAll(added);
            l.base.putAll(base);
            l.copy.putAll(copy);
            return l;
        }
    }

    /** Lists of fields are never changed, but replaced. */
    private static final class World {
        int tick;
        int clients;
        List<Integer> rules = new ArrayList<>();
        List<Node> nodes = new ArrayList<>(List.of(new Node(-1, -1, false)));
        SortedMap<Integer, List<Integer>> trunk = new TreeMap<>();
        SortedMap<Integer, List<Integer>> last = new TreeMap<>();
        SortedMap<Integer, Lease> leases = new TreeMap<>();
        List<Conflict> conflicts = new ArrayList<>();

        World twin() {
            World w = new World();
            w.tick = tick;
            w.clients = clients;
            w.rules.addAll(rules);
            w.nodes = new ArrayList<>(nodes);
            w.trunk.putAll(trunk);
            w.last.putAll(last);
            leases.forEach((c, l) -> w.leases.put(c, l.twin()));
            w.conflicts.addAll(conflicts);
            return w;
        }

        boolean isBelow(int node, int top) {
            return node == top || node > 0 && isBelow(nodes.get(node).parent(), top);
        }

        int childOf(SortedMap<Integer, List<Integer>> in, int parent, int label) {
            for (int n : in.keySet()) {
                if (n > 0 && nodes.get(n).parent() == parent && nodes.get(n).label() == label) {
                    return n;
                }
            }
            return -1;
        }

        List<Integer> zeros() {
            return new ArrayList<>(java.util.Collections.nCopies(rules.size(), 0));
        }

        void live(int node, List<Integer> fields) {
            trunk.put(node, fields);
            last.put(node, fields);
        }

        int merge(int client) {
            Lease l = leases.remove(client);
            List<Conflict> fresh = new ArrayList<>();
            for (int n : l.added) {
                if (l.copy.containsKey(n)) {
                    Node node = nodes.get(n);
                    if (!trunk.containsKey(node.parent())) {
                        fresh.add(new Conflict(2, n, -1, 0, client, tick));
                    } else if (childOf(trunk, node.parent(), node.label()) >= 0) {
                        fresh.add(new Conflict(3, n, -1, 0, client, tick));
                    } else {
                        live(n, l.copy.get(n));
                    }
                }
            }
            for (int n : l.base.keySet()) {
                if (l.copy.containsKey(n) && !l.copy.get(n).equals(l.base.get(n))) {
                    if (trunk.containsKey(n)) {
                        live(n, merged(client, n, l, fresh));
                    } else {
                        fresh.add(new Conflict(1, n, -1, 0, client, tick));
                    }
                }
            }
            for (int n : l.base.keySet()) {
                boolean top = !l.copy.containsKey(n) && l.copy.containsKey(nodes.get(n).parent());
                if (top && trunk.containsKey(n)) {
                    boolean asBefore = true;
                    for (int m : trunk.keySet()) {
                        asBefore &= !isBelow(m, n) || trunk.get(m).equals(l.base.get(m));
                    }
                    if (asBefore) {
                        trunk.keySet().removeIf(m -> isBelow(m, n));
                    } else {
                        fresh.add(new Conflict(4, n, -1, 0, client, tick));
                    }
                }
            }
            conflicts.addAll(fresh);
            while (conflicts.size() > 40) {
                conflicts.remove(0);
            }
            return fresh.size();
        }

        private List<Integer> merged(int client, int node, Lease l, List<Conflict> fresh) {
            List<Integer> result = new ArrayList<>(trunk.get(node));
            for (int f = 0; f < rules.size(); f++) {
                int b = l.base.get(node).get(f);
                int c = l.copy.get(node).get(f);
                int t = result.get(f);
                if (b != c) {
                    if (rules.get(f) == 4 && t != b && t != c) {
                        fresh.add(new Conflict(0, node, f, c, client, tick));
                    } else {
                        result.set(f, one(rules.get(f), b, c, t));
                    }
                }
            }
            return result;
        }

        private static int one(int rule, int b, int c, int t) {
            if (rule == 0) {
                long sum = (long) t + c - b;
                return sum > 1000000000 ? 1000000000 : sum < -1000000000 ? -1000000000 : (int) sum;
            }
            if (rule == 1) {
                return t > c ? t : c;
            }
            if (rule == 2) {
                return t < c ? t : c;
            }
            if (rule == 3) {
                int value = 0;
                for (int i = 0; i < 32; i++) {
                    int inB = b >>> i & 1;
                    int inC = c >>> i & 1;
                    value |= (inB == inC ? t >>> i & 1 : inC) << i;
                }
                return value;
            }
            return c;
        }
    }

    private World w = empty();
    private World saved;
    private final List<World> past = new ArrayList<>();
    private String buffer = "";

    private static World empty() {
        World w = new World();
        w.live(0, w.zeros());
        return w;
    }

    private void change() {
        past.add(w.twin());
        if (past.size() > 8) {
            past.remove(0);
        }
    }

    private static void index(boolean holds) {
        if (!holds) {
            throw new IndexOutOfBoundsException();
        }
    }

    private static void argument(boolean holds) {
        if (!holds) {
            throw new IllegalArgumentException();
        }
    }

    private static void state(boolean holds) {
        if (!holds) {
            throw new IllegalStateException();
        }
    }

    private static void element(boolean holds) {
        if (!holds) {
            throw new NoSuchElementException();
        }
    }

    private static boolean in(int value, int from, int to) {
        return value >= from && value <= to;
    }

    private void client(int client) {
        index(in(client, 0, w.clients - 1));
    }

    private void nodeThere(int node) {
        index(in(node, 0, w.nodes.size() - 1));
    }

    private void fieldThere(int field) {
        index(in(field, 0, w.rules.size() - 1));
    }

    private Lease held(int client) {
        state(w.leases.containsKey(client));
        return w.leases.get(client);
    }

    int append(int a, int b, int c, int d, int e) {
        StringBuilder text = new StringBuilder(buffer);
        for (int word : new int[] {a, b, c, d, e}) {
            for (byte one : java.nio.ByteBuffer.allocate(4).putInt(word).array()) {
                if (one != 0) {
                    text.append((char) (one & 255));
                }
            }
        }
        state(text.length() <= 600);
        buffer = text.toString();
        return buffer.length();
    }

    int truncate(int length) {
        argument(in(length, 0, buffer.length()));
        buffer = buffer.substring(0, length);
        return length;
    }

    int errorPosition() {
        return new Reader(buffer).error;
    }

    int load() {
        Reader reader = new Reader(buffer);
        argument(reader.error == -1);
        w = reader.w;
        buffer = "";
        past.clear();
        saved = null;
        return w.nodes.size();
    }

    int lease(int client, int node, int ticks, boolean exclusive) {
        client(client);
        nodeThere(node);
        argument(in(ticks, 1, 100));
        state(!w.leases.containsKey(client) && w.trunk.containsKey(node) && blockers(client, node, exclusive) == 0);
        change();
        Lease l = new Lease();
        l.node = node;
        l.end = w.tick + ticks;
        l.exclusive = exclusive;
        w.trunk.forEach((n, fields) -> {
            if (w.isBelow(n, node)) {
                l.base.put(n, fields);
                l.copy.put(n, fields);
            }
        });
        w.leases.put(client, l);
        return l.end;
    }

    int renew(int client, int ticks) {
        client(client);
        argument(in(ticks, 1, 100));
        state(held(client).end < w.tick + ticks);
        change();
        held(client).end = w.tick + ticks;
        return w.tick + ticks;
    }

    int setField(int client, int node, int field, int value) {
        client(client);
        nodeThere(node);
        fieldThere(field);
        argument(in(value, -1000000, 1000000));
        state(held(client).copy.containsKey(node) && w.nodes.get(node).record());
        change();
        List<Integer> fields = new ArrayList<>(held(client).copy.get(node));
        int previous = fields.set(field, value);
        held(client).copy.put(node, fields);
        return previous;
    }

    int addNode(int client, int parent, int label, boolean record) {
        client(client);
        nodeThere(parent);
        argument(in(label, 0, 999));
        state(held(client).copy.containsKey(parent) && !w.nodes.get(parent).record()
                && w.childOf(held(client).copy, parent, label) < 0 && w.nodes.size() < 60);
        change();
        int node = w.nodes.size();
        w.nodes.add(new Node(parent, label, record));
        held(client).added.add(node);
        held(client).copy.put(node, w.zeros());
        return node;
    }

    int removeNode(int client, int node) {
        client(client);
        nodeThere(node);
        state(held(client).copy.containsKey(node) && held(client).node != node);
        change();
        int before = held(client).copy.size();
        held(client).copy.keySet().removeIf(n -> w.isBelow(n, node));
        return before - held(client).copy.size();
    }

    int commit(int client) {
        client(client);
        held(client);
        change();
        return w.merge(client);
    }

    int abandon(int client) {
        int changed = changedCount(client);
        change();
        w.leases.remove(client);
        return changed;
    }

    int resolve(int conflict, boolean accept) {
        index(in(conflict, 0, w.conflicts.size() - 1));
        Conflict c = w.conflicts.get(conflict);
        state(!accept || (c.kind() == 0 || c.kind() == 4) && w.trunk.containsKey(c.node()));
        change();
        if (accept && c.kind() == 0) {
            List<Integer> fields = new ArrayList<>(w.trunk.get(c.node()));
            fields.set(c.field(), c.value());
            w.live(c.node(), fields);
        } else if (accept) {
            w.trunk.keySet().removeIf(n -> w.isBelow(n, c.node()));
        }
        w.conflicts.remove(conflict);
        return w.conflicts.size();
    }

    int advance(int ticks) {
        argument(in(ticks, 1, 200) && w.tick + ticks <= 9999);
        change();
        int folded = 0;
        for (int i = 0; i < ticks; i++) {
            w.tick++;
            for (int c = 0; c < w.clients; c++) {
                if (w.leases.containsKey(c) && w.leases.get(c).end == w.tick) {
                    w.merge(c);
                    folded++;
                }
            }
        }
        return folded;
    }

    int undo() {
        state(!past.isEmpty());
        w = past.remove(past.size() - 1);
        return past.size();
    }

    int undoCount() {
        return past.size();
    }

    int save() {
        saved = w.twin();
        return w.tick;
    }

    int restore() {
        state(saved != null);
        w = saved.twin();
        past.clear();
        return w.tick;
    }

    int tick() {
        return w.tick;
    }

    int setup(int what) {
        argument(in(what, 0, 1));
        return what == 0 ? w.rules.size() : w.clients;
    }

    int rule(int field) {
        fieldThere(field);
        return w.rules.get(field);
    }

    int nodeCount() {
        return w.nodes.size();
    }

    int node(int node, int what) {
        nodeThere(node);
        argument(in(what, 0, 4));
        Node n = w.nodes.get(node);
        int above = 0;
        for (int p = n.parent(); p >= 0; p = w.nodes.get(p).parent()) {
            above++;
        }
        return new int[] {n.parent(), n.label(), n.record() ? 1 : 0, w.trunk.containsKey(node) ? 1 : 0, above}[what];
    }

    int field(int node, int field) {
        nodeThere(node);
        fieldThere(field);
        return w.last.getOrDefault(node, w.zeros()).get(field);
    }

    private List<Integer> children(int node) {
        List<Integer> found = new ArrayList<>();
        for (int label = 0; label < 1000; label++) {
            int child = w.childOf(w.trunk, node, label);
            if (child >= 0) {
                found.add(child);
            }
        }
        return found;
    }

    int childCount(int node) {
        nodeThere(node);
        return children(node).size();
    }

    int child(int node, int index) {
        nodeThere(node);
        index(in(index, 0, children(node).size() - 1));
        return children(node).get(index);
    }

    int find(int parent, int label) {
        nodeThere(parent);
        int found = w.childOf(w.trunk, parent, label);
        element(found >= 0);
        return found;
    }

    private void walkInto(int node, List<Integer> order) {
        order.add(node);
        children(node).forEach(child -> walkInto(child, order));
    }

    private List<Integer> order(int node) {
        List<Integer> order = new ArrayList<>();
        if (w.trunk.containsKey(node)) {
            walkInto(node, order);
        }
        return order;
    }

    int walk(int node, int index) {
        nodeThere(node);
        List<Integer> order = order(node);
        index(in(index, 0, order.size() - 1));
        return order.get(index);
    }

    int size(int node) {
        nodeThere(node);
        return order(node).size();
    }

    long total(int node, int field) {
        nodeThere(node);
        fieldThere(field);
        return order(node).stream().mapToLong(n -> field(n, field)).sum();
    }

    int greatest(int node, int field) {
        nodeThere(node);
        fieldThere(field);
        int best = -1;
        for (int n : new java.util.TreeSet<>(order(node))) {
            if (w.nodes.get(n).record() && (best < 0 || field(n, field) > field(best, field))) {
                best = n;
            }
        }
        element(best >= 0);
        return best;
    }

    int leased(int client, int what) {
        client(client);
        argument(in(what, 0, 2));
        Lease l = w.leases.get(client);
        return l == null ? -1 : what == 0 ? l.node : what == 1 ? l.end : l.exclusive ? 1 : 0;
    }

    int blockers(int client, int node, boolean exclusive) {
        client(client);
        nodeThere(node);
        int found = 0;
        for (int c : w.leases.keySet()) {
            Lease l = w.leases.get(c);
            boolean touches = w.isBelow(node, l.node) || w.isBelow(l.node, node);
            if (c != client && touches && (exclusive || l.exclusive)) {
                found += 1 << c;
            }
        }
        return found;
    }

    int nextEnd() {
        element(!w.leases.isEmpty());
        return w.leases.values().stream().mapToInt(l -> l.end).min().getAsInt();
    }

    boolean isInCopy(int client, int node) {
        client(client);
        nodeThere(node);
        return held(client).copy.containsKey(node);
    }

    int copyField(int client, int node, int field) {
        client(client);
        nodeThere(node);
        fieldThere(field);
        state(held(client).copy.containsKey(node));
        return held(client).copy.get(node).get(field);
    }

    int changedCount(int client) {
        client(client);
        Lease l = held(client);
        int changed = 0;
        for (int n : l.base.keySet()) {
            for (int f = 0; f < w.rules.size() && l.copy.containsKey(n); f++) {
                changed += l.base.get(n).get(f).equals(l.copy.get(n).get(f)) ? 0 : 1;
            }
        }
        return changed;
    }

    int preview(int client) {
        client(client);
        held(client);
        return w.twin().merge(client);
    }

    int wouldBe(int client, int node, int field) {
        client(client);
        nodeThere(node);
        fieldThere(field);
        held(client);
        World later = w.twin();
        later.merge(client);
        element(later.trunk.containsKey(node));
        return later.trunk.get(node).get(field);
    }

    boolean isFree(int client, int other) {
        client(client);
        client(other);
        argument(client != other);
        held(client);
        held(other);
        World one = w.twin();
        World two = w.twin();
        int conflictsOfOne = one.merge(client) + one.merge(other);
        int conflictsOfTwo = two.merge(other) + two.merge(client);
        return conflictsOfOne == conflictsOfTwo && one.trunk.equals(two.trunk);
    }

    int conflictCount() {
        return w.conflicts.size();
    }

    int conflict(int conflict, int what) {
        index(in(conflict, 0, w.conflicts.size() - 1));
        argument(in(what, 0, 5));
        return w.conflicts.get(conflict).part(what);
    }

    int conflictsOf(int kind) {
        argument(in(kind, 0, 4));
        return (int) w.conflicts.stream().filter(c -> c.kind() == kind).count();
    }

    /** Reads a setup text token by token; a token that cannot be accepted ends the reading. */
    private static final class Reader {
        private static final Pattern TOKEN = Pattern.compile(" *([a-z]+|[0-9]+|[^ ])", Pattern.DOTALL);

        final World w = empty();
        int error = -1;
        private final List<String> tokens = new ArrayList<>();
        private final List<Integer> places = new ArrayList<>();
        private int next;

        Reader(String text) {
            Matcher m = TOKEN.matcher(text);
            while (m.lookingAt()) {
                tokens.add(m.group(1));
                places.add(m.start(1));
                m.region(m.end(), text.length());
            }
            places.add(text.length());
            do {
                statement();
            } while (error < 0 && next < tokens.size() && take(";"));
            w.trunk.putAll(w.last);
        }

        private void refuse() {
            if (error < 0) {
                error = places.get(next);
            }
        }

        private boolean take(String want) {
            boolean there = error < 0 && next < tokens.size() && tokens.get(next).equals(want);
            if (there) {
                next++;
            } else {
                refuse();
            }
            return there;
        }

        private int number(java.util.function.IntPredicate fits) {
            if (error < 0 && next < tokens.size() && tokens.get(next).matches("[0-9]{1,7}")
                    && fits.test(Integer.parseInt(tokens.get(next)))) {
                next++;
                return Integer.parseInt(tokens.get(next - 1));
            }
            refuse();
            return 0;
        }

        private void statement() {
            String word = next < tokens.size() ? tokens.get(next) : "";
            if (word.equals("field") && w.rules.size() < 6) {
                next++;
                int rule = next < tokens.size() ? RULES.indexOf(tokens.get(next)) : -1;
                if (rule < 0) {
                    refuse();
                }
                w.rules.add(rule);
                w.last.replaceAll((n, fields) -> withOneMore(fields));
                next++;
            } else if (word.equals("client") && w.clients < 5) {
                next++;
                w.clients++;
            } else if ((word.equals("dir") || word.equals("record")) && w.nodes.size() < 60) {
                next++;
                int parent = number(p -> p < w.nodes.size() && !w.nodes.get(p).record());
                int label = number(l -> l < 1000 && w.childOf(w.last, parent, l) < 0);
                if (error < 0) {
                    w.last.put(w.nodes.size(), w.zeros());
                    w.nodes.add(new Node(parent, label, word.equals("record")));
                }
            } else if (word.equals("value")) {
                next++;
                value();
            } else {
                refuse();
            }
        }

        private static List<Integer> withOneMore(List<Integer> fields) {
            List<Integer> more = new ArrayList<>(fields);
            more.add(0);
            return more;
        }

        private void value() {
            int node = number(n -> n < w.nodes.size() && w.nodes.get(n).record());
            int field = number(f -> f < w.rules.size());
            boolean negative = error < 0 && next < tokens.size() && tokens.get(next).equals("-");
            if (negative) {
                next++;
            }
            int value = number(v -> v <= 1000000);
            if (error < 0) {
                List<Integer> fields = new ArrayList<>(w.last.get(node));
                fields.set(field, negative ? -value : value);
                w.last.put(node, fields);
            }
        }
    }
}
