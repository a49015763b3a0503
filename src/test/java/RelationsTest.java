import java.util.ArrayList;
import java.util.List;
import java.util.Random;

/**
 * What the document says of one method by another one, such as that preview tells what commit would add, in states
 * that random changes lead to (with seeds that are written down). No model is needed: what is due is asked of a
 * twin, an object made by the same changes. No object gets more than 512 calls.
 */
public final class RelationsTest {
    private static final int RUNS = 120;
    private static final int CHANGES = 90;
    private static final int QUESTIONS_OF_A_TWIN = 300;
    private static final int FIELDS = 3;
    private static final int CLIENTS = 4;
    private static final String[] RULES = {"sum", "max", "min", "bits", "first", "last"};

    private final String run;
    private final Random random;
    private final String setup;
    /** Only the changes that succeeded. */
    private final List<Twins.Action> changes = new ArrayList<>();
    private final LeasedTree x;

    private RelationsTest(int seed) {
        run = "seed " + seed + ": ";
        random = new Random(seed);
        setup = randomSetup();
        LeasedTree grown = Due.loaded(setup);
        for (int i = 0; i < CHANGES; i++) {
            Twins.Action change = randomChange(grown);
            try {
                change.on(grown);
                changes.add(change);
            } catch (RuntimeException e) {
                // What is refused changes nothing, so a twin does without it.
                continue;
            }
        }
        x = twin();
    }

    public static void main(String[] args) {
        for (int seed = 1; seed <= RUNS; seed++) {
            RelationsTest test = new RelationsTest(seed);
            test.countsOfLists();
            test.walks();
            for (int c = 0; c < CLIENTS; c++) {
                if (test.x.leased(c, 0) == LeasedTree.NONE) {
                    test.leaseByBlockers(c);
                } else {
                    test.commitByPreview(c);
                    test.abandonByChangedCount(c);
                    test.freeByBothOrders(c);
                }
            }
            test.endsByCommits();
            test.undos();
        }
        Due.end("RelationsTest");
    }

    private String randomSetup() {
        StringBuilder text = new StringBuilder("client;".repeat(CLIENTS));
        for (int f = 0; f < FIELDS; f++) {
            text.append("field ").append(RULES[random.nextInt(RULES.length)]).append(';');
        }
        text.append("dir 0 5;dir 0 4;dir 1 3;record 0 2;record 1 9;record 2 9;record 3 1;record 3 0");
        for (int n = 4; n <= 8; n++) {
            text.append(";value ").append(n).append(' ').append(n % FIELDS).append(' ').append(random.nextInt(5) - 2);
        }
        return text.toString();
    }

    private Twins.Action randomChange(LeasedTree of) {
        int client = random.nextInt(CLIENTS);
        int node = random.nextInt(of.nodeCount());
        int number = random.nextInt(6);
        boolean yes = random.nextInt(3) == 0;
        int field = random.nextInt(FIELDS);
        // Leases often end together: at the next multiple of thirty.
        int ticks = yes ? 1 + random.nextInt(60) : 30 - of.tick() % 30;
        switch (random.nextInt(24)) {
            case 0, 1, 2, 3:
                return y -> y.lease(client, yes ? node : 0, ticks, number == 0);
            case 4:
                return y -> y.renew(client, ticks);
            case 5, 6, 7:
                return y -> y.addNode(client, node, number, yes);
            case 8, 9:
                return y -> y.removeNode(client, node);
            case 10:
                return y -> y.commit(client);
            case 11:
                return y -> y.resolve(number, yes);
            case 12:
                return y -> y.advance(1 + ticks / 4);
            default:
                return y -> y.setField(client, node, field, number - 3);
        }
    }

    private LeasedTree twin() {
        return twin(changes.size());
    }

    private LeasedTree twin(int count) {
        LeasedTree made = Due.loaded(setup);
        for (int i = 0; i < count; i++) {
            changes.get(i).on(made);
        }
        return made;
    }

    private void countsOfLists() {
        int sum = 0;
        for (int kind = 0; kind <= 4; kind++) {
            sum += x.conflictsOf(kind);
        }
        Due.is(run + "conflicts of all kinds", sum, x.conflictCount());
        Due.is(run + "undoCount", x.undoCount(), Math.min(8, changes.size()));
    }

    /** "a node comes first, then the walks of its children by increasing label" */
    private void walks() {
        LeasedTree y = twin();
        List<Integer> all = new ArrayList<>();
        walk(y, 0, all);
        LeasedTree z = twin();
        Due.is(run + "size of the root", z.size(0), all.size());
        int alive = 0;
        for (int n = 0; n < z.nodeCount(); n++) {
            alive += z.node(n, 3);
        }
        Due.is(run + "alive nodes", alive, all.size());
        for (int i = 0; i < all.size(); i++) {
            Due.is(run + "walk " + i, z.walk(0, i), all.get(i));
        }
        for (int f = 0; f < FIELDS; f++) {
            long total = 0;
            int best = LeasedTree.NONE;
            for (int n : all) {
                if (z.node(n, 2) == 0) {
                    continue;
                }
                int value = z.field(n, f);
                total += value;
                boolean more = best == LeasedTree.NONE || value > y.field(best, f);
                best = more || value == y.field(best, f) && n < best ? n : best;
            }
            Due.is(run + "total " + f, x.total(0, f), total);
            Due.is(run + "greatest " + f, ask(x, best == LeasedTree.NONE, f), best);
        }
    }

    private static int ask(LeasedTree of, boolean none, int field) {
        if (none) {
            Due.fails("greatest without records", Due.ELEMENT, () -> of.greatest(0, field));
            return LeasedTree.NONE;
        }
        return of.greatest(0, field);
    }

    private void walk(LeasedTree y, int top, List<Integer> all) {
        all.add(top);
        for (int i = 0, last = -1; i < y.childCount(top); i++) {
            int child = y.child(top, i);
            int label = y.node(child, 1);
            Due.is(run + "the label of child " + child + " is greater", label > last, true);
            Due.is(run + "find " + label, y.find(top, label), child);
            walk(y, child, all);
            last = label;
        }
    }

    /** "the lease is not possible because of other leases" */
    private void leaseByBlockers(int client) {
        for (int i = 0; i < 12; i++) {
            int node = i == 0 ? 0 : random.nextInt(x.nodeCount());
            boolean exclusive = random.nextBoolean();
            LeasedTree y = twin();
            boolean possible = y.node(node, 3) == 1 && y.blockers(client, node, exclusive) == 0;
            String call = run + "lease " + client + ' ' + node + ' ' + exclusive;
            if (!possible) {
                Due.fails(call, Due.STATE, () -> y.lease(client, node, 7, exclusive));
                continue;
            }
            Due.is(call, y.lease(client, node, 7, exclusive), y.tick() + 7);
            Due.is(call + ": preview", y.preview(client), 0);
            int copied = 0;
            for (int n = 0; n < y.nodeCount(); n++) {
                copied += y.isInCopy(client, n) ? 1 : 0;
            }
            Due.is(call + ": nodes of the copy", copied, y.size(node));
        }
    }

    /** "the number of conflicts that commit() would add now", "would have after commit() now" */
    private void commitByPreview(int client) {
        LeasedTree y = twin();
        int due = y.preview(client);
        LeasedTree done = twin();
        int before = done.conflictCount();
        Due.is(run + "commit " + client, done.commit(client), due);
        Due.is(run + "conflictCount", done.conflictCount(), Math.min(40, before + due));
        for (int n = 0; n < y.nodeCount(); n++) {
            int node = n;
            if (done.node(n, 3) == 0) {
                Due.fails(run + "wouldBe " + client + ' ' + n, Due.ELEMENT, () -> y.wouldBe(client, node, 0));
                continue;
            }
            int field = random.nextInt(FIELDS);
            Due.is(run + "wouldBe " + client + ' ' + n + ' ' + field, y.wouldBe(client, n, field), done.field(n, field));
        }
    }

    /** "Returns the number of fields that were changed in the copy", "without merging" */
    private void abandonByChangedCount(int client) {
        LeasedTree y = twin();
        int due = y.changedCount(client);
        Due.is(run + "abandon " + client, y.abandon(client), due);
        Due.is(run + "leased " + client, y.leased(client, 1), LeasedTree.NONE);
        Due.is(run + "trunk after abandon " + client, trunk(y).equals(trunk(twin())), true);
    }

    /** "the same nodes are alive with the same fields in the trunk, and the same number of conflicts is added" */
    private void freeByBothOrders(int client) {
        for (int other = 0; other < CLIENTS; other++) {
            if (other == client || x.leased(other, 0) == LeasedTree.NONE) {
                continue;
            }
            LeasedTree one = twin();
            int added = one.commit(client) + one.commit(other);
            LeasedTree two = twin();
            boolean same = two.commit(other) + two.commit(client) == added && trunk(one).equals(trunk(two));
            Due.is(run + "isFree " + client + ' ' + other, twin().isFree(client, other), same);
        }
    }

    /** The alive nodes with their fields. */
    private static String trunk(LeasedTree of) {
        StringBuilder text = new StringBuilder();
        int count = of.nodeCount();
        for (int n = 0; n < count; n++) {
            if (of.node(n, 3) == 1) {
                text.append(n);
                for (int f = 0; f < FIELDS; f++) {
                    text.append(' ').append(of.field(n, f));
                }
                text.append(';');
            }
        }
        return text.toString();
    }

    /** "the leases that end at it are folded, in the order of the clients' numbers: each is merged as by commit()" */
    private void endsByCommits() {
        LeasedTree one = twin();
        LeasedTree two = twin();
        int earliest = LeasedTree.NONE;
        for (int c = 0; c < CLIENTS; c++) {
            int end = one.leased(c, 1);
            earliest = end != LeasedTree.NONE && (earliest == LeasedTree.NONE || end < earliest) ? end : earliest;
        }
        if (earliest == LeasedTree.NONE) {
            Due.fails(run + "nextEnd", Due.ELEMENT, one::nextEnd);
            return;
        }
        Due.is(run + "nextEnd", one.nextEnd(), earliest);
        int folded = 0;
        for (int c = 0; c < CLIENTS; c++) {
            if (two.leased(c, 1) == earliest) {
                two.commit(c);
                folded++;
            }
        }
        Due.is(run + "advance", one.advance(earliest - one.tick()), folded);
        Due.is(run + "trunk after advance", trunk(one).equals(trunk(two)), true);
        Due.is(run + "conflicts after advance", one.conflictCount(), two.conflictCount());
        for (int i = 0; i < one.conflictCount(); i++) {
            Due.is(run + "node of conflict " + i, one.conflict(i, 1), two.conflict(i, 1));
            Due.is(run + "kind of conflict " + i, one.conflict(i, 0), two.conflict(i, 0));
        }
    }

    /** "The latest 8 changes can be undone one by one" */
    private void undos() {
        int undos = 1 + random.nextInt(x.undoCount());
        LeasedTree one = undone(undos);
        LeasedTree two = twin(changes.size() - undos);
        List<Twins.Question> questions = Twins.questions(twin(changes.size() - undos));
        // What was undone counts as one of the latest eight changes, what was never made does not.
        questions.remove(Twins.UNDO_COUNT);
        int asked = 0;
        for (Twins.Question question : questions) {
            if (asked == QUESTIONS_OF_A_TWIN) {
                one = undone(undos);
                two = twin(changes.size() - undos);
                asked = 0;
            }
            asked++;
            boolean same = Twins.answer(question, one).equals(Twins.answer(question, two));
            Due.is(run + "the same after " + undos + " undos", same, true);
        }
    }

    private LeasedTree undone(int undos) {
        LeasedTree y = twin();
        for (int i = 0; i < undos; i++) {
            y.undo();
        }
        return y;
    }
}
