import java.util.Arrays;
import java.util.NoSuchElementException;

/** A tree whose branches are leased to clients and merged back by a rule for each field. */
public final class LeasedTree {
    public static final int NONE = -1;

    private static final int MOST_NODES = 60;
    private static final int MOST_FIELDS = 6;
    private static final int MOST_CLIENTS = 5;
    private static final int MOST_CONFLICTS = 40;
    private static final int MOST_UNDO = 8;
    private static final int MOST_BYTES = 600;
    private static final int MOST_DIGITS = 7;
    private static final int MOST_LABEL = 999;
    private static final int MOST_VALUE = 1000000;
    private static final int MOST_SUM = 1000000000;
    private static final int MOST_LEASE_TICKS = 100;
    private static final int MOST_PASSING_TICKS = 200;
    private static final int LAST_TICK = 9999;

    private static final int RULE_SUM = 0;
    private static final int RULE_MAX = 1;
    private static final int RULE_MIN = 2;
    private static final int RULE_BITS = 3;
    private static final int RULE_FIRST = 4;
    private static final int RULE_LAST = 5;

    private static final int KIND_REFUSED_VALUE = 0;
    private static final int KIND_CHANGED_BUT_GONE = 1;
    private static final int KIND_PARENT_GONE = 2;
    private static final int KIND_LABEL_TAKEN = 3;
    private static final int KIND_REMOVED_BUT_CHANGED = 4;
    private static final int KINDS = 5;

    private static final int CONFLICT_PARTS = 6;
    private static final int PART_KIND = 0;
    private static final int PART_NODE = 1;
    private static final int PART_FIELD = 2;
    private static final int PART_VALUE = 3;
    private static final int PART_CLIENT = 4;
    private static final int PART_TICK = 5;

    private static final int TOKEN_END = 0;
    private static final int TOKEN_WORD = 1;
    private static final int TOKEN_NUMBER = 2;
    private static final int TOKEN_SIGN = 3;

    private final State now = new State();
    private final State saved = new State();
    private boolean hasSaved;
    private final History history = new History();
    private final SetupText text = new SetupText();
    private final Branch trial = new Branch();
    private final Branch otherTrial = new Branch();
    // Trial merges must not touch the real list, but add to a list like the real ones.
    private final Conflicts trialConflicts = new Conflicts();

    public LeasedTree() {
        now.reset();
    }

    // ---- Input

    public int append(int a, int b, int c, int d, int e) throws IllegalStateException {
        int fresh = countBytes(a) + countBytes(b) + countBytes(c) + countBytes(d) + countBytes(e);
        if (text.length + fresh > MOST_BYTES) {
            throw new IllegalStateException("the input buffer would be too long");
        }
        text.addBytes(a);
        text.addBytes(b);
        text.addBytes(c);
        text.addBytes(d);
        text.addBytes(e);
        return text.length;
    }

    public int truncate(int length) throws IllegalArgumentException {
        if (length < 0 || length > text.length) {
            throw new IllegalArgumentException("the length is out of range");
        }
        text.length = length;
        return length;
    }

    public int errorPosition() {
        return text.readAll();
    }

    public int load() throws IllegalArgumentException {
        if (text.readAll() != NONE) {
            throw new IllegalArgumentException("the setup text is not valid");
        }
        now.copyFrom(text.draft);
        text.length = 0;
        history.forget();
        hasSaved = false;
        return now.nodes.count;
    }

    // ---- Changes

    public int lease(int client, int node, int ticks, boolean exclusive)
            throws IndexOutOfBoundsException, IllegalArgumentException, IllegalStateException {
        requireClient(client);
        requireNode(node);
        requireLeaseTicks(ticks);
        if (now.leases[client].held) {
            throw new IllegalStateException("the client has a lease");
        }
        if (!now.trunk.has(node)) {
            throw new IllegalStateException("the node is not alive");
        }
        if (now.blockersOf(client, node, exclusive) != 0) {
            throw new IllegalStateException("other leases stand against it");
        }
        history.push(now);
        return now.beginLease(client, node, ticks, exclusive);
    }

    public int renew(int client, int ticks)
            throws IndexOutOfBoundsException, IllegalArgumentException, IllegalStateException {
        requireClient(client);
        requireLeaseTicks(ticks);
        requireLease(client);
        int end = now.tick + ticks;
        if (end <= now.leases[client].end) {
            throw new IllegalStateException("the lease would not end later");
        }
        history.push(now);
        now.leases[client].end = end;
        return end;
    }

    public int setField(int client, int node, int field, int value)
            throws IndexOutOfBoundsException, IllegalArgumentException, IllegalStateException {
        requireClient(client);
        requireNode(node);
        requireField(field);
        if (value < -MOST_VALUE || value > MOST_VALUE) {
            throw new IllegalArgumentException("the value is out of range");
        }
        requireLease(client);
        requireInCopy(client, node);
        if (!contains(now.nodes.records, node)) {
            throw new IllegalStateException("the node is not a record");
        }
        history.push(now);
        Branch copy = now.leases[client].copy;
        int previous = copy.valueOf(node, field);
        copy.put(node, field, value);
        return previous;
    }

    public int addNode(int client, int parent, int label, boolean record)
            throws IndexOutOfBoundsException, IllegalArgumentException, IllegalStateException {
        requireClient(client);
        requireNode(parent);
        if (label < 0 || label > MOST_LABEL) {
            throw new IllegalArgumentException("the label is out of range");
        }
        requireLease(client);
        requireInCopy(client, parent);
        if (contains(now.nodes.records, parent)) {
            throw new IllegalStateException("the parent is not a directory");
        }
        if (now.nodes.childWith(now.leases[client].copy.alive, parent, label) != NONE) {
            throw new IllegalStateException("the label is taken");
        }
        if (now.nodes.count >= MOST_NODES) {
            throw new IllegalStateException("there are too many nodes");
        }
        history.push(now);
        return now.addToCopy(client, parent, label, record);
    }

    public int removeNode(int client, int node) throws IndexOutOfBoundsException, IllegalStateException {
        requireClient(client);
        requireNode(node);
        requireLease(client);
        requireInCopy(client, node);
        if (now.leases[client].node == node) {
            throw new IllegalStateException("it is the leased node");
        }
        history.push(now);
        Branch copy = now.leases[client].copy;
        long removed = copy.alive & now.nodes.atOrBelow(node);
        copy.alive &= ~removed;
        return Long.bitCount(removed);
    }

    public int commit(int client) throws IndexOutOfBoundsException, IllegalStateException {
        requireClient(client);
        requireLease(client);
        history.push(now);
        int added = now.merge(client, now.trunk, now.conflicts);
        now.leases[client].held = false;
        return added;
    }

    public int abandon(int client) throws IndexOutOfBoundsException, IllegalStateException {
        requireClient(client);
        requireLease(client);
        history.push(now);
        int changed = now.changedIn(client);
        now.leases[client].held = false;
        return changed;
    }

    public int resolve(int conflict, boolean accept) throws IndexOutOfBoundsException, IllegalStateException {
        requireConflict(conflict);
        if (accept && !now.canAccept(conflict)) {
            throw new IllegalStateException("what was refused cannot be done");
        }
        history.push(now);
        if (accept) {
            now.accept(conflict);
        }
        now.conflicts.drop(conflict);
        return now.conflicts.count;
    }

    public int advance(int ticks) throws IllegalArgumentException {
        if (ticks < 1 || ticks > MOST_PASSING_TICKS || now.tick + ticks > LAST_TICK) {
            throw new IllegalArgumentException("the ticks are out of range");
        }
        history.push(now);
        int folded = 0;
        for (int passed = 0; passed < ticks; passed++) {
            folded += now.passTick();
        }
        return folded;
    }

    // ---- History

    public int undo() throws IllegalStateException {
        if (history.count == 0) {
            throw new IllegalStateException("there is nothing to undo");
        }
        history.popInto(now);
        return history.count;
    }

    public int undoCount() {
        return history.count;
    }

    public int save() {
        saved.copyFrom(now);
        hasSaved = true;
        return now.tick;
    }

    public int restore() throws IllegalStateException {
        if (!hasSaved) {
            throw new IllegalStateException("there is no saved copy");
        }
        now.copyFrom(saved);
        history.forget();
        return now.tick;
    }

    // ---- Trunk

    public int tick() {
        return now.tick;
    }

    public int setup(int what) throws IllegalArgumentException {
        switch (what) {
            case 0:
                return now.fieldCount;
            case 1:
                return now.clientCount;
            default:
                throw new IllegalArgumentException("there is no such part of the setup");
        }
    }

    public int rule(int field) throws IndexOutOfBoundsException {
        requireField(field);
        return now.rules[field];
    }

    public int nodeCount() {
        return now.nodes.count;
    }

    public int node(int node, int what) throws IndexOutOfBoundsException, IllegalArgumentException {
        requireNode(node);
        switch (what) {
            case 0:
                return now.nodes.parents[node];
            case 1:
                return now.nodes.labels[node];
            case 2:
                return contains(now.nodes.records, node) ? 1 : 0;
            case 3:
                return now.trunk.has(node) ? 1 : 0;
            case 4:
                return Long.bitCount(now.nodes.paths[node]) - 1;
            default:
                throw new IllegalArgumentException("there is no such part of a node");
        }
    }

    public int field(int node, int field) throws IndexOutOfBoundsException {
        requireNode(node);
        requireField(field);
        return now.trunk.valueOf(node, field);
    }

    public int childCount(int node) throws IndexOutOfBoundsException {
        requireNode(node);
        return now.nodes.countChildren(now.trunk.alive, node);
    }

    public int child(int node, int index) throws IndexOutOfBoundsException {
        requireNode(node);
        if (index < 0 || index >= now.nodes.countChildren(now.trunk.alive, node)) {
            throw new IndexOutOfBoundsException("there is no such child");
        }
        int found = now.nodes.nextChild(now.trunk.alive, node, NONE);
        for (int passed = 0; passed < index && found != NONE; passed++) {
            found = now.nodes.nextChild(now.trunk.alive, node, now.nodes.labels[found]);
        }
        return found;
    }

    public int find(int parent, int label) throws IndexOutOfBoundsException, NoSuchElementException {
        requireNode(parent);
        int found = now.nodes.childWith(now.trunk.alive, parent, label);
        if (found == NONE) {
            throw new NoSuchElementException("there is no such child");
        }
        return found;
    }

    public int walk(int node, int index) throws IndexOutOfBoundsException {
        requireNode(node);
        if (index < 0 || index >= now.nodes.countBelow(now.trunk.alive, node)) {
            throw new IndexOutOfBoundsException("the walk has no such index");
        }
        return now.nodes.walked(now.trunk.alive, node, index);
    }

    public int size(int node) throws IndexOutOfBoundsException {
        requireNode(node);
        return now.nodes.countBelow(now.trunk.alive, node);
    }

    public long total(int node, int field) throws IndexOutOfBoundsException {
        requireNode(node);
        requireField(field);
        long records = now.recordsBelow(node);
        long sum = 0;
        for (int n = 0; n < now.nodes.count; n++) {
            if (contains(records, n)) {
                sum += now.trunk.valueOf(n, field);
            }
        }
        return sum;
    }

    public int greatest(int node, int field) throws IndexOutOfBoundsException, NoSuchElementException {
        requireNode(node);
        requireField(field);
        long records = now.recordsBelow(node);
        int best = NONE;
        for (int n = 0; n < now.nodes.count; n++) {
            if (contains(records, n)
                    && (best == NONE || now.trunk.valueOf(n, field) > now.trunk.valueOf(best, field))) {
                best = n;
            }
        }
        if (best == NONE) {
            throw new NoSuchElementException("there is no such record");
        }
        return best;
    }

    // ---- Leases and copies

    public int leased(int client, int what) throws IndexOutOfBoundsException, IllegalArgumentException {
        requireClient(client);
        if (what < 0 || what > 2) {
            throw new IllegalArgumentException("there is no such part of a lease");
        }
        Lease lease = now.leases[client];
        if (!lease.held) {
            return NONE;
        }
        if (what == 0) {
            return lease.node;
        }
        if (what == 1) {
            return lease.end;
        }
        return lease.exclusive ? 1 : 0;
    }

    public int blockers(int client, int node, boolean exclusive) throws IndexOutOfBoundsException {
        requireClient(client);
        requireNode(node);
        return now.blockersOf(client, node, exclusive);
    }

    public int nextEnd() throws NoSuchElementException {
        int earliest = NONE;
        for (int c = 0; c < now.clientCount; c++) {
            Lease lease = now.leases[c];
            if (lease.held && (earliest == NONE || lease.end < earliest)) {
                earliest = lease.end;
            }
        }
        if (earliest == NONE) {
            throw new NoSuchElementException("there are no leases");
        }
        return earliest;
    }

    public boolean isInCopy(int client, int node) throws IndexOutOfBoundsException, IllegalStateException {
        requireClient(client);
        requireNode(node);
        requireLease(client);
        return now.leases[client].copy.has(node);
    }

    public int copyField(int client, int node, int field)
            throws IndexOutOfBoundsException, IllegalStateException {
        requireClient(client);
        requireNode(node);
        requireField(field);
        requireLease(client);
        requireInCopy(client, node);
        return now.leases[client].copy.valueOf(node, field);
    }

    public int changedCount(int client) throws IndexOutOfBoundsException, IllegalStateException {
        requireClient(client);
        requireLease(client);
        return now.changedIn(client);
    }

    public int preview(int client) throws IndexOutOfBoundsException, IllegalStateException {
        requireClient(client);
        requireLease(client);
        trial.copyFrom(now.trunk);
        return now.merge(client, trial, trialConflicts);
    }

    public int wouldBe(int client, int node, int field)
            throws IndexOutOfBoundsException, IllegalStateException, NoSuchElementException {
        requireClient(client);
        requireNode(node);
        requireField(field);
        requireLease(client);
        trial.copyFrom(now.trunk);
        now.merge(client, trial, trialConflicts);
        if (!trial.has(node)) {
            throw new NoSuchElementException("the node would not be alive");
        }
        return trial.valueOf(node, field);
    }

    public boolean isFree(int client, int other)
            throws IndexOutOfBoundsException, IllegalArgumentException, IllegalStateException {
        requireClient(client);
        requireClient(other);
        if (client == other) {
            throw new IllegalArgumentException("both clients are the same");
        }
        requireLease(client);
        requireLease(other);
        return mergeBoth(client, other, trial) == mergeBoth(other, client, otherTrial)
                && trial.sameAs(otherTrial);
    }

    // ---- Conflicts

    public int conflictCount() {
        return now.conflicts.count;
    }

    public int conflict(int conflict, int what) throws IndexOutOfBoundsException, IllegalArgumentException {
        requireConflict(conflict);
        if (what < 0 || what >= CONFLICT_PARTS) {
            throw new IllegalArgumentException("there is no such part of a conflict");
        }
        return now.conflicts.part(conflict, what);
    }

    public int conflictsOf(int kind) throws IllegalArgumentException {
        if (kind < 0 || kind >= KINDS) {
            throw new IllegalArgumentException("there is no such kind");
        }
        return now.conflicts.countOf(kind);
    }

    // ---- Helpers of the face

    private void requireClient(int client) {
        if (client < 0 || client >= now.clientCount) {
            throw new IndexOutOfBoundsException("there is no such client");
        }
    }

    private void requireNode(int node) {
        if (node < 0 || node >= now.nodes.count) {
            throw new IndexOutOfBoundsException("there is no such node");
        }
    }

    private void requireField(int field) {
        if (field < 0 || field >= now.fieldCount) {
            throw new IndexOutOfBoundsException("there is no such field");
        }
    }

    private void requireConflict(int conflict) {
        if (conflict < 0 || conflict >= now.conflicts.count) {
            throw new IndexOutOfBoundsException("there is no such conflict");
        }
    }

    private void requireLeaseTicks(int ticks) {
        if (ticks < 1 || ticks > MOST_LEASE_TICKS) {
            throw new IllegalArgumentException("the ticks are out of range");
        }
    }

    private void requireLease(int client) {
        if (!now.leases[client].held) {
            throw new IllegalStateException("the client has no lease");
        }
    }

    private void requireInCopy(int client, int node) {
        if (!now.leases[client].copy.has(node)) {
            throw new IllegalStateException("the node is not alive in the copy");
        }
    }

    private int mergeBoth(int earlier, int later, Branch target) {
        target.copyFrom(now.trunk);
        return now.merge(earlier, target, trialConflicts) + now.merge(later, target, trialConflicts);
    }

    private static long bit(int node) {
        return 1L << node;
    }

    private static boolean contains(long nodes, int node) {
        return (nodes >>> node & 1L) != 0;
    }

    private static int countBytes(int word) {
        int found = 0;
        for (int shift = 24; shift >= 0; shift -= 8) {
            if ((word >>> shift & 255) != 0) {
                found++;
            }
        }
        return found;
    }

    /** b is the value in the base, c the changed one in the copy, t the present one in the trunk. */
    private static int mergedValue(int rule, int b, int c, int t) {
        switch (rule) {
            case RULE_SUM:
                return (int) Math.max(-MOST_SUM, Math.min(MOST_SUM, (long) t + c - b));
            case RULE_MAX:
                return Math.max(t, c);
            case RULE_MIN:
                return Math.min(t, c);
            case RULE_BITS:
                return t & ~(b & ~c) | c & ~b;
            case RULE_FIRST:
                return t == b ? c : t;
            default:
                return c;
        }
    }

    /** Which nodes are alive, and the fields of every node: the trunk, a base or a copy. */
    private static final class Branch {
        long alive;
        final int[] values = new int[MOST_NODES * MOST_FIELDS];

        void reset() {
            alive = bit(0);
            Arrays.fill(values, 0);
        }

        void copyFrom(Branch other) {
            alive = other.alive;
            System.arraycopy(other.values, 0, values, 0, values.length);
        }

        boolean has(int node) {
            return contains(alive, node);
        }

        int valueOf(int node, int field) {
            return values[node * MOST_FIELDS + field];
        }

        void put(int node, int field, int value) {
            values[node * MOST_FIELDS + field] = value;
        }

        void takeFields(Branch other, int node) {
            System.arraycopy(other.values, node * MOST_FIELDS, values, node * MOST_FIELDS, MOST_FIELDS);
        }

        void clearFields(int node) {
            for (int f = 0; f < MOST_FIELDS; f++) {
                put(node, f, 0);
            }
        }

        int countDifferent(Branch other, int node) {
            int found = 0;
            for (int f = 0; f < MOST_FIELDS; f++) {
                if (valueOf(node, f) != other.valueOf(node, f)) {
                    found++;
                }
            }
            return found;
        }

        // The fields of nodes that are not alive do not count.
        boolean sameAs(Branch other) {
            if (alive != other.alive) {
                return false;
            }
            for (int n = 0; n < MOST_NODES; n++) {
                if (has(n) && countDifferent(other, n) > 0) {
                    return false;
                }
            }
            return true;
        }
    }

    /** What never changes about a node once it has its number; sets of nodes are bit sets. */
    private static final class Nodes {
        int count;
        long records;
        final int[] parents = new int[MOST_NODES];
        final int[] labels = new int[MOST_NODES];
        // A path holds the node itself and all nodes above it, so that no chain of parents is walked.
        final long[] paths = new long[MOST_NODES];

        void reset() {
            count = 1;
            records = 0;
            parents[0] = NONE;
            labels[0] = NONE;
            paths[0] = bit(0);
        }

        void copyFrom(Nodes other) {
            count = other.count;
            records = other.records;
            System.arraycopy(other.parents, 0, parents, 0, MOST_NODES);
            System.arraycopy(other.labels, 0, labels, 0, MOST_NODES);
            System.arraycopy(other.paths, 0, paths, 0, MOST_NODES);
        }

        int addNext(int parent, int label, boolean record) {
            int node = count;
            parents[node] = parent;
            labels[node] = label;
            paths[node] = paths[parent] | bit(node);
            if (record) {
                records |= bit(node);
            }
            count++;
            return node;
        }

        boolean touch(int one, int two) {
            return contains(paths[one], two) || contains(paths[two], one);
        }

        long atOrBelow(int top) {
            long found = 0;
            for (int n = 0; n < count; n++) {
                if (contains(paths[n], top)) {
                    found |= bit(n);
                }
            }
            return found;
        }

        int countBelow(long alive, int top) {
            return Long.bitCount(alive & atOrBelow(top));
        }

        int countChildren(long alive, int parent) {
            int found = 0;
            for (int n = 0; n < count; n++) {
                if (parents[n] == parent && contains(alive, n)) {
                    found++;
                }
            }
            return found;
        }

        int childWith(long alive, int parent, int label) {
            for (int n = 0; n < count; n++) {
                if (parents[n] == parent && labels[n] == label && contains(alive, n)) {
                    return n;
                }
            }
            return NONE;
        }

        /** The alive child with the lowest label that is greater than the given one. */
        int nextChild(long alive, int parent, int label) {
            int best = NONE;
            for (int n = 0; n < count; n++) {
                if (parents[n] == parent && contains(alive, n) && labels[n] > label
                        && (best == NONE || labels[n] < labels[best])) {
                    best = n;
                }
            }
            return best;
        }

        /** The index must be one of the walk. */
        int walked(long alive, int top, int index) {
            int at = top;
            int left = index;
            for (int level = 0; level < MOST_NODES && left > 0 && at != NONE; level++) {
                left--;
                int child = nextChild(alive, at, NONE);
                for (int k = 0; k < MOST_NODES && child != NONE && left >= countBelow(alive, child); k++) {
                    left -= countBelow(alive, child);
                    child = nextChild(alive, at, labels[child]);
                }
                at = child;
            }
            return at;
        }
    }

    private static final class Lease {
        boolean held;
        int node;
        int end;
        boolean exclusive;
        long added;
        final Branch base = new Branch();
        final Branch copy = new Branch();

        void copyFrom(Lease other) {
            held = other.held;
            if (!held) {
                // What a lease that ended leaves behind is never read.
                return;
            }
            node = other.node;
            end = other.end;
            exclusive = other.exclusive;
            added = other.added;
            base.copyFrom(other.base);
            copy.copyFrom(other.copy);
        }

        int changedFields(int node) {
            return base.has(node) && copy.has(node) ? copy.countDifferent(base, node) : 0;
        }
    }

    /** The latest conflicts, the oldest first. */
    private static final class Conflicts {
        int count;
        final int[] parts = new int[MOST_CONFLICTS * CONFLICT_PARTS];

        void copyFrom(Conflicts other) {
            count = other.count;
            System.arraycopy(other.parts, 0, parts, 0, parts.length);
        }

        int part(int index, int what) {
            return parts[index * CONFLICT_PARTS + what];
        }

        void drop(int index) {
            int behind = (count - index - 1) * CONFLICT_PARTS;
            System.arraycopy(parts, (index + 1) * CONFLICT_PARTS, parts, index * CONFLICT_PARTS, behind);
            count--;
        }

        void add(int kind, int node, int field, int value, int client, int tick) {
            if (count >= MOST_CONFLICTS) {
                System.arraycopy(parts, CONFLICT_PARTS, parts, 0, parts.length - CONFLICT_PARTS);
                count--;
            }
            int start = count * CONFLICT_PARTS;
            parts[start + PART_KIND] = kind;
            parts[start + PART_NODE] = node;
            parts[start + PART_FIELD] = field;
            parts[start + PART_VALUE] = value;
            parts[start + PART_CLIENT] = client;
            parts[start + PART_TICK] = tick;
            count++;
        }

        int countOf(int kind) {
            int found = 0;
            for (int i = 0; i < count; i++) {
                if (part(i, PART_KIND) == kind) {
                    found++;
                }
            }
            return found;
        }
    }

    /** Everything but the input buffer, the undo history and the saved copy. */
    private static final class State {
        int tick;
        int fieldCount;
        int clientCount;
        final int[] rules = new int[MOST_FIELDS];
        final Nodes nodes = new Nodes();
        final Branch trunk = new Branch();
        final Lease[] leases = new Lease[MOST_CLIENTS];
        final Conflicts conflicts = new Conflicts();

        State() {
            for (int c = 0; c < MOST_CLIENTS; c++) {
                leases[c] = new Lease();
            }
        }

        void reset() {
            tick = 0;
            fieldCount = 0;
            clientCount = 0;
            nodes.reset();
            trunk.reset();
            for (int c = 0; c < MOST_CLIENTS; c++) {
                leases[c].held = false;
            }
            conflicts.count = 0;
        }

        void copyFrom(State other) {
            tick = other.tick;
            fieldCount = other.fieldCount;
            clientCount = other.clientCount;
            System.arraycopy(other.rules, 0, rules, 0, MOST_FIELDS);
            nodes.copyFrom(other.nodes);
            trunk.copyFrom(other.trunk);
            for (int c = 0; c < MOST_CLIENTS; c++) {
                leases[c].copyFrom(other.leases[c]);
            }
            conflicts.copyFrom(other.conflicts);
        }

        long recordsBelow(int top) {
            return nodes.atOrBelow(top) & nodes.records & trunk.alive;
        }

        int blockersOf(int client, int node, boolean exclusive) {
            int found = 0;
            for (int c = 0; c < clientCount; c++) {
                Lease other = leases[c];
                if (c != client && other.held && (exclusive || other.exclusive)
                        && nodes.touch(node, other.node)) {
                    found |= 1 << c;
                }
            }
            return found;
        }

        int beginLease(int client, int node, int ticks, boolean exclusive) {
            Lease lease = leases[client];
            lease.held = true;
            lease.node = node;
            lease.end = tick + ticks;
            lease.exclusive = exclusive;
            lease.added = 0;
            lease.base.copyFrom(trunk);
            lease.base.alive &= nodes.atOrBelow(node);
            lease.copy.copyFrom(lease.base);
            return lease.end;
        }

        int addToCopy(int client, int parent, int label, boolean record) {
            Lease lease = leases[client];
            int node = nodes.addNext(parent, label, record);
            lease.added |= bit(node);
            lease.copy.alive |= bit(node);
            lease.copy.clearFields(node);
            return node;
        }

        int changedIn(int client) {
            int found = 0;
            for (int n = 0; n < nodes.count; n++) {
                found += leases[client].changedFields(n);
            }
            return found;
        }

        int passTick() {
            tick++;
            int folded = 0;
            for (int c = 0; c < clientCount; c++) {
                if (leases[c].held && leases[c].end == tick) {
                    merge(c, trunk, conflicts);
                    leases[c].held = false;
                    folded++;
                }
            }
            return folded;
        }

        /** Merges a client's copy into the target; answers how many conflicts that added to the list. */
        int merge(int client, Branch target, Conflicts list) {
            return joinAdded(client, target, list)
                    + joinChanged(client, target, list)
                    + joinRemoved(client, target, list);
        }

        private int joinAdded(int client, Branch target, Conflicts list) {
            Lease lease = leases[client];
            int refused = 0;
            for (int n = 1; n < nodes.count; n++) {
                if (!contains(lease.added & lease.copy.alive, n)) {
                    continue;
                }
                if (!target.has(nodes.parents[n])) {
                    list.add(KIND_PARENT_GONE, n, NONE, 0, client, tick);
                    refused++;
                } else if (nodes.childWith(target.alive, nodes.parents[n], nodes.labels[n]) != NONE) {
                    list.add(KIND_LABEL_TAKEN, n, NONE, 0, client, tick);
                    refused++;
                } else {
                    target.alive |= bit(n);
                    target.takeFields(lease.copy, n);
                }
            }
            return refused;
        }

        private int joinChanged(int client, Branch target, Conflicts list) {
            int refused = 0;
            for (int n = 0; n < nodes.count; n++) {
                if (leases[client].changedFields(n) == 0) {
                    continue;
                }
                if (target.has(n)) {
                    refused += joinFields(client, n, target, list);
                } else {
                    list.add(KIND_CHANGED_BUT_GONE, n, NONE, 0, client, tick);
                    refused++;
                }
            }
            return refused;
        }

        private int joinFields(int client, int node, Branch target, Conflicts list) {
            int refused = 0;
            for (int f = 0; f < fieldCount; f++) {
                int b = leases[client].base.valueOf(node, f);
                int c = leases[client].copy.valueOf(node, f);
                int t = target.valueOf(node, f);
                if (c == b) {
                    continue;
                }
                target.put(node, f, mergedValue(rules[f], b, c, t));
                if (rules[f] == RULE_FIRST && t != b && t != c) {
                    list.add(KIND_REFUSED_VALUE, node, f, c, client, tick);
                    refused++;
                }
            }
            return refused;
        }

        private int joinRemoved(int client, Branch target, Conflicts list) {
            Lease lease = leases[client];
            long removed = lease.base.alive & ~lease.copy.alive;
            int refused = 0;
            for (int n = 1; n < nodes.count; n++) {
                boolean isTop = contains(removed, n) && lease.copy.has(nodes.parents[n]);
                if (!isTop || !target.has(n)) {
                    continue;
                }
                if (isAsInBase(lease.base, n, target)) {
                    target.alive &= ~nodes.atOrBelow(n);
                } else {
                    list.add(KIND_REMOVED_BUT_CHANGED, n, NONE, 0, client, tick);
                    refused++;
                }
            }
            return refused;
        }

        private boolean isAsInBase(Branch base, int top, Branch target) {
            long present = target.alive & nodes.atOrBelow(top);
            for (int n = 0; n < nodes.count; n++) {
                if (contains(present, n) && (!base.has(n) || target.countDifferent(base, n) > 0)) {
                    return false;
                }
            }
            return true;
        }

        boolean canAccept(int conflict) {
            int kind = conflicts.part(conflict, PART_KIND);
            return (kind == KIND_REFUSED_VALUE || kind == KIND_REMOVED_BUT_CHANGED)
                    && trunk.has(conflicts.part(conflict, PART_NODE));
        }

        void accept(int conflict) {
            int node = conflicts.part(conflict, PART_NODE);
            if (conflicts.part(conflict, PART_KIND) == KIND_REFUSED_VALUE) {
                trunk.put(node, conflicts.part(conflict, PART_FIELD), conflicts.part(conflict, PART_VALUE));
            } else {
                trunk.alive &= ~nodes.atOrBelow(node);
            }
        }
    }

    /** The states before the latest changes, in a ring whose rows are used again. */
    private static final class History {
        int count;
        private int next;
        private final State[] states = new State[MOST_UNDO];

        History() {
            for (int i = 0; i < MOST_UNDO; i++) {
                states[i] = new State();
            }
        }

        void forget() {
            count = 0;
        }

        void push(State state) {
            states[next].copyFrom(state);
            next = (next + 1) % MOST_UNDO;
            count = Math.min(count + 1, MOST_UNDO);
        }

        void popInto(State state) {
            next = (next + MOST_UNDO - 1) % MOST_UNDO;
            count--;
            state.copyFrom(states[next]);
        }
    }

    /**
     * The input buffer and its reader. Each reading method answers whether it could accept its tokens;
     * where it could not, the present token is the one that could not be accepted.
     */
    private static final class SetupText {
        int length;
        // The text is read into a draft, so that checking it leaves the present state alone.
        final State draft = new State();
        private final int[] bytes = new int[MOST_BYTES];
        private int token;
        private int start;
        private int end;
        // NONE for every token that is no number of at most seven digits.
        private int number;

        void addBytes(int word) {
            for (int shift = 24; shift >= 0; shift -= 8) {
                int value = word >>> shift & 255;
                if (value != 0 && length < MOST_BYTES) {
                    bytes[length] = value;
                    length++;
                }
            }
        }

        /** Answers the error position. */
        int readAll() {
            draft.reset();
            end = 0;
            nextToken();
            // Every statement takes a byte at least.
            for (int statements = 0; statements <= MOST_BYTES; statements++) {
                if (!readStatement()) {
                    return start;
                }
                if (token == TOKEN_END) {
                    return NONE;
                }
                if (!isSign(';')) {
                    return start;
                }
                nextToken();
            }
            return start;
        }

        private boolean readStatement() {
            if (isWord("field")) {
                return readField();
            }
            if (isWord("client")) {
                return readClient();
            }
            if (isWord("dir")) {
                return readNode(false);
            }
            if (isWord("record")) {
                return readNode(true);
            }
            return isWord("value") && readValue();
        }

        private boolean readField() {
            if (draft.fieldCount >= MOST_FIELDS) {
                return false;
            }
            nextToken();
            int rule = ruleOfWord();
            if (rule == NONE) {
                return false;
            }
            draft.rules[draft.fieldCount] = rule;
            draft.fieldCount++;
            nextToken();
            return true;
        }

        private boolean readClient() {
            if (draft.clientCount >= MOST_CLIENTS) {
                return false;
            }
            draft.clientCount++;
            nextToken();
            return true;
        }

        private boolean readNode(boolean record) {
            Nodes nodes = draft.nodes;
            if (nodes.count >= MOST_NODES) {
                return false;
            }
            nextToken();
            int parent = number;
            if (parent == NONE || parent >= nodes.count || contains(nodes.records, parent)) {
                return false;
            }
            nextToken();
            int label = number;
            if (label == NONE || label > MOST_LABEL
                    || nodes.childWith(draft.trunk.alive, parent, label) != NONE) {
                return false;
            }
            draft.trunk.alive |= bit(nodes.addNext(parent, label, record));
            nextToken();
            return true;
        }

        private boolean readValue() {
            nextToken();
            int node = number;
            if (node == NONE || node >= draft.nodes.count || !contains(draft.nodes.records, node)) {
                return false;
            }
            nextToken();
            int field = number;
            if (field == NONE || field >= draft.fieldCount) {
                return false;
            }
            nextToken();
            boolean negative = isSign('-');
            if (negative) {
                nextToken();
            }
            if (number == NONE || number > MOST_VALUE) {
                return false;
            }
            draft.trunk.put(node, field, negative ? -number : number);
            nextToken();
            return true;
        }

        private int ruleOfWord() {
            if (isWord("sum")) {
                return RULE_SUM;
            }
            if (isWord("max")) {
                return RULE_MAX;
            }
            if (isWord("min")) {
                return RULE_MIN;
            }
            if (isWord("bits")) {
                return RULE_BITS;
            }
            if (isWord("first")) {
                return RULE_FIRST;
            }
            return isWord("last") ? RULE_LAST : NONE;
        }

        private boolean isSign(char sign) {
            return token == TOKEN_SIGN && bytes[start] == sign;
        }

        private boolean isWord(String word) {
            if (token != TOKEN_WORD || end - start != word.length()) {
                return false;
            }
            for (int i = 0; i < word.length(); i++) {
                if (bytes[start + i] != word.charAt(i)) {
                    return false;
                }
            }
            return true;
        }

        private void nextToken() {
            start = endOfRun(end, ' ', ' ');
            number = NONE;
            if (start >= length) {
                token = TOKEN_END;
                return;
            }
            int first = bytes[start];
            if (first >= 'a' && first <= 'z') {
                token = TOKEN_WORD;
                end = endOfRun(start, 'a', 'z');
            } else if (first >= '0' && first <= '9') {
                token = TOKEN_NUMBER;
                end = endOfRun(start, '0', '9');
                number = numberOfToken();
            } else {
                token = TOKEN_SIGN;
                end = start + 1;
            }
        }

        private int endOfRun(int from, int least, int most) {
            int at = from;
            while (at < length && bytes[at] >= least && bytes[at] <= most) {
                at++;
            }
            return at;
        }

        private int numberOfToken() {
            if (end - start > MOST_DIGITS) {
                return NONE;
            }
            int value = 0;
            for (int i = start; i < end; i++) {
                value = value * 10 + bytes[i] - '0';
            }
            return value;
        }
    }
}
