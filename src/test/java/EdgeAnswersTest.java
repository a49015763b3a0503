/** The boundaries of what is asked: promises 19 to 43, sentence by sentence. */
public final class EdgeAnswersTest {
    private static final int LEAST = Integer.MIN_VALUE;
    private static final int MOST = Integer.MAX_VALUE;
    /** Numbers that are no node or field of the leased world. */
    private static final int[] NO_NODE = {9, 60, 63, 64, -1, LEAST, MOST};
    private static final int[] NO_FIELD = {3, 6, -1, LEAST, MOST};

    public static void main(String[] args) {
        tickBounds();
        setupParts();
        ruleNumbers();
        nodeCounts();
        nodeParts();
        fieldOfDeadNodes();
        noSuchNodeOrField();
        childBounds();
        findBounds();
        walkBounds();
        walkOfAChain();
        sizeBounds();
        totalBounds();
        greatestBounds();
        leasedParts();
        blockersBounds();
        nextEndBounds();
        isInCopyBounds();
        copyFieldBounds();
        changedCountBounds();
        previewBounds();
        wouldBeBounds();
        isFreeOrder();
        isFreeBounds();
        conflictCountBounds();
        conflictParts();
        conflictsOfKinds();
        Due.end("EdgeAnswersTest");
    }

    /** Promise 19: "Returns 0 to 9999." */
    private static void tickBounds() {
        LeasedTree x = new LeasedTree();
        Due.is("first tick", x.tick(), 0);
        for (int i = 1; i <= 49; i++) {
            x.advance(200);
            Due.is("tick " + 200 * i, x.tick(), 200 * i);
        }
        x.advance(199);
        Due.is("last tick", x.tick(), 9999);
        Due.fails("behind the last tick", Due.ARGUMENT, () -> x.advance(1));
        Due.is("last tick still", x.tick(), 9999);
    }

    /** Promise 20: "what: 0 fields, 1 clients". */
    private static void setupParts() {
        Due.is("no fields", new LeasedTree().setup(0), 0);
        Due.is("no clients", new LeasedTree().setup(1), 0);
        LeasedTree x = Due.loaded("field sum;".repeat(6) + "client;".repeat(4) + "client");
        Due.is("most fields", x.setup(0), 6);
        Due.is("most clients", x.setup(1), 5);
        for (int what : new int[] {2, -1, LEAST, MOST}) {
            Twins.refused("setup(" + what + ")", Due.ARGUMENT, Worlds::leased, y -> y.setup(what));
        }
    }

    /** Promise 21: "0 sum, 1 max, 2 min, 3 bits, 4 first, 5 last". */
    private static void ruleNumbers() {
        LeasedTree x = Due.loaded("field sum;field max;field min;field bits;field first;field last");
        LeasedTree y = Due.loaded("field last;field first;field bits;field min;field max;field sum");
        for (int f = 0; f < 6; f++) {
            Due.is("rule(" + f + ")", x.rule(f), f);
            Due.is("rule(" + f + ") turned round", y.rule(f), 5 - f);
        }
        for (int field : NO_FIELD) {
            Twins.refused("rule(" + field + ")", Due.INDEX, Worlds::leased, z -> z.rule(field));
        }
    }

    /** Promise 22: "Returns the number of nodes, alive or not", "1 to 60". */
    private static void nodeCounts() {
        Due.is("one node", new LeasedTree().nodeCount(), 1);
        Due.is("alive or not", Worlds.leased().nodeCount(), 9);
        Due.is("sixty nodes", Worlds.full().nodeCount(), 60);
        LeasedTree x = Worlds.leased();
        x.commit(0);
        Due.is("dead nodes count", x.nodeCount(), 9);
    }

    /** Promise 23: "0 its parent (NONE for node 0), 1 its label (NONE for node 0), ... 4 the number of nodes above it". */
    private static void nodeParts() {
        LeasedTree x = Worlds.leased();
        int[][] parts = {{-1, -1, 0, 1, 0}, {0, 1, 0, 1, 1}, {1, 2, 1, 1, 2}, {1, 3, 0, 1, 2}, {3, 4, 1, 1, 3},
            {0, 5, 0, 1, 1}, {5, 6, 1, 1, 2}, {1, 9, 0, 0, 2}, {7, 9, 1, 0, 3}};
        for (int n = 0; n < parts.length; n++) {
            for (int what = 0; what < 5; what++) {
                Due.is("node(" + n + ", " + what + ")", x.node(n, what), parts[n][what]);
            }
        }
        for (int what : new int[] {5, -1, LEAST, MOST}) {
            Twins.refused("node(0, " + what + ")", Due.ARGUMENT, Worlds::leased, y -> y.node(0, what));
            Twins.refused("node(8, " + what + ")", Due.ARGUMENT, Worlds::leased, y -> y.node(8, what));
            Twins.refused("node(9, " + what + ")", Due.INDEX, Worlds::leased, y -> y.node(9, what));
        }
        LeasedTree chain = chain();
        Due.is("59 nodes above", chain.node(59, 4), 59);
    }

    /** Nodes 1 to 59 each below the one before, all alive. */
    private static LeasedTree chain() {
        LeasedTree x = Due.loaded("field sum;client");
        x.lease(0, 0, 9, false);
        for (int n = 1; n < 60; n++) {
            x.addNode(0, n - 1, n % 7, n == 59);
        }
        x.setField(0, 59, 0, 1000000);
        x.commit(0);
        return x;
    }

    /** Promise 24: "as it was when the node was alive there last ...; 0 if it never was, and for directories". */
    private static void fieldOfDeadNodes() {
        LeasedTree x = Worlds.leased();
        x.setField(0, 8, 1, 7);
        Due.is("never alive", x.field(8, 1), 0);
        Due.is("directory", x.field(1, 2), 0);
        x.abandon(0);
        Due.is("never alive, abandoned", x.field(8, 1), 0);
        LeasedTree y = Worlds.plain();
        y.lease(0, 0, 9, false);
        y.setField(0, 2, 0, 77);
        y.setField(0, 2, 1, 78);
        y.commit(0);
        y.lease(0, 0, 9, false);
        y.setField(0, 2, 0, 99);
        y.removeNode(0, 1);
        y.commit(0);
        Due.is("dead", y.node(2, 3), 0);
        Due.is("as it was last", y.field(2, 0), 77);
        Due.is("as it was last, the next field", y.field(2, 1), 78);
        Due.is("dead directory", y.field(1, 0), 0);
    }

    /** Promises 24 to 31: "IndexOutOfBoundsException if the node or the field does not exist". */
    private static void noSuchNodeOrField() {
        for (int node : NO_NODE) {
            Twins.refused("node(" + node + ", 0)", Due.INDEX, Worlds::leased, x -> x.node(node, 0));
            Twins.refused("field of " + node, Due.INDEX, Worlds::leased, x -> x.field(node, 0));
            Twins.refused("childCount of " + node, Due.INDEX, Worlds::leased, x -> x.childCount(node));
            Twins.refused("child of " + node, Due.INDEX, Worlds::leased, x -> x.child(node, 0));
            Twins.refused("find in " + node, Due.INDEX, Worlds::leased, x -> x.find(node, 1));
            Twins.refused("walk from " + node, Due.INDEX, Worlds::leased, x -> x.walk(node, 0));
            Twins.refused("size of " + node, Due.INDEX, Worlds::leased, x -> x.size(node));
            Twins.refused("total of " + node, Due.INDEX, Worlds::leased, x -> x.total(node, 0));
            Twins.refused("greatest of " + node, Due.INDEX, Worlds::leased, x -> x.greatest(node, 0));
        }
        for (int field : NO_FIELD) {
            Twins.refused("field(2, " + field + ")", Due.INDEX, Worlds::leased, x -> x.field(2, field));
            Twins.refused("field(1, " + field + ")", Due.INDEX, Worlds::leased, x -> x.field(1, field));
            Twins.refused("total(0, " + field + ")", Due.INDEX, Worlds::leased, x -> x.total(0, field));
            Twins.refused("greatest(0, " + field + ")", Due.INDEX, Worlds::leased, x -> x.greatest(0, field));
        }
    }

    /** Promises 25 and 26: "0 for the one with the lowest label, and so on". */
    private static void childBounds() {
        Twins.Recipe recipe = () -> Due.loaded("client;dir 0 500;record 0 999;dir 0 0;record 0 501;record 1 7");
        LeasedTree x = recipe.make();
        int[] order = {3, 1, 4, 2};
        Due.is("children", x.childCount(0), 4);
        for (int i = 0; i < 4; i++) {
            Due.is("child(0, " + i + ")", x.child(0, i), order[i]);
        }
        for (int index : new int[] {4, -1, LEAST, MOST}) {
            Twins.refused("child(0, " + index + ")", Due.INDEX, recipe, y -> y.child(0, index));
        }
        Twins.refused("child of a record", Due.INDEX, recipe, y -> y.child(2, 0));
        Twins.refused("child of an empty directory", Due.INDEX, recipe, y -> y.child(3, 0));
        Due.is("only child", x.child(1, 0), 5);
        Twins.refused("second child of one", Due.INDEX, recipe, y -> y.child(1, 1));
        x.lease(0, 0, 9, false);
        x.removeNode(0, 4);
        x.removeNode(0, 5);
        x.addNode(0, 0, 502, true);
        Due.is("children of the copy are not asked", x.childCount(0), 4);
        x.commit(0);
        Due.is("one child less, one more", x.childCount(0), 4);
        Due.is("the child that came", x.child(0, 2), 6);
        Due.is("no child left", x.childCount(1), 0);
        Due.fails("no child left: child", Due.INDEX, () -> x.child(1, 0));
        LeasedTree full = Worlds.full();
        full.commit(0);
        Due.is("55 children", full.childCount(0), 55);
        Due.is("the first of 55", full.child(0, 0), 1);
        Due.is("the last of 55", full.child(0, 54), 59);
        Due.fails("behind the last of 55", Due.INDEX, () -> full.child(0, 55));
    }

    /** Promise 27: "label: any int", "NoSuchElementException if there is none". */
    private static void findBounds() {
        Twins.Recipe recipe = () -> Due.loaded("dir 0 0;record 0 999;record 1 5");
        LeasedTree x = recipe.make();
        Due.is("find(0, 0)", x.find(0, 0), 1);
        Due.is("find(0, 999)", x.find(0, 999), 2);
        Due.is("find(1, 5)", x.find(1, 5), 3);
        for (int label : new int[] {1, 998, 1000, 5, -1, LEAST, MOST}) {
            Twins.refused("find(0, " + label + ")", Due.ELEMENT, recipe, y -> y.find(0, label));
        }
        // The root has no label, and is no child of any node.
        for (int node = 0; node < 4; node++) {
            int parent = node;
            Twins.refused("find(" + node + ", NONE)", Due.ELEMENT, recipe, y -> y.find(parent, LeasedTree.NONE));
        }
        Twins.refused("find in a record", Due.ELEMENT, recipe, y -> y.find(2, 5));
        Twins.refused("node before label", Due.INDEX, recipe, y -> y.find(4, -1));
        Twins.refused("find of a node in a copy", Due.ELEMENT, Worlds::leased, y -> y.find(1, 9));
        Twins.refused("find below a node in a copy", Due.ELEMENT, Worlds::leased, y -> y.find(7, 9));
        Due.is("find of a node removed in a copy", Worlds.leased().find(1, 3), 3);
    }

    /** Promise 28: "a node comes first, then the walks of its children by increasing label". */
    private static void walkBounds() {
        Twins.Recipe recipe = () -> Due.loaded("dir 0 9;dir 0 1;record 1 9;dir 1 1;record 2 5;record 4 0;record 0 5");
        LeasedTree x = recipe.make();
        int[] order = {0, 2, 5, 7, 1, 4, 6, 3};
        for (int i = 0; i < 8; i++) {
            Due.is("walk(0, " + i + ")", x.walk(0, i), order[i]);
        }
        for (int i = 0; i < 4; i++) {
            Due.is("walk(1, " + i + ")", x.walk(1, i), order[4 + i]);
        }
        Due.is("walk(2, 1)", x.walk(2, 1), 5);
        Due.is("walk(3, 0)", x.walk(3, 0), 3);
        int[][] none = {{0, 8}, {1, 4}, {2, 2}, {3, 1}, {0, -1}, {1, LEAST}, {1, MOST}, {8, 0}};
        for (int[] n : none) {
            Twins.refused("walk(" + n[0] + ", " + n[1] + ")", Due.INDEX, recipe, y -> y.walk(n[0], n[1]));
        }
        Twins.refused("walk of a node in a copy", Due.INDEX, Worlds::leased, y -> y.walk(7, 0));
        LeasedTree z = Worlds.leased();
        z.commit(0);
        Due.fails("walk of a dead node", Due.INDEX, () -> z.walk(3, 0));
        Due.is("walk past a dead node", z.walk(1, 2), 7);
    }

    private static void walkOfAChain() {
        LeasedTree x = chain();
        for (int n = 0; n < 60; n++) {
            Due.is("walk of the chain at " + n, x.walk(0, n), n);
            Due.is("walk of the chain from " + n, x.walk(n, 59 - n), 59);
            int node = n;
            Due.fails("walk behind the chain from " + n, Due.INDEX, () -> x.walk(node, 60 - node));
        }
    }

    /** Promise 29: "Returns the number; 0 if the node is not alive." */
    private static void sizeBounds() {
        int[] sizes = {7, 4, 1, 2, 1, 2, 1, 0, 0};
        LeasedTree x = Worlds.leased();
        for (int n = 0; n < sizes.length; n++) {
            Due.is("size of " + n, x.size(n), sizes[n]);
        }
        x.commit(0);
        int[] later = {7, 4, 1, 0, 0, 2, 1, 2, 1};
        for (int n = 0; n < later.length; n++) {
            Due.is("size of " + n + " later", x.size(n), later[n]);
        }
        Due.is("size of 60", chain().size(0), 60);
        Due.is("size of one", new LeasedTree().size(0), 1);
    }

    /** Promise 30: "the sum of a field over all alive records at and below a node". */
    private static void totalBounds() {
        LeasedTree x = Worlds.leased();
        Due.is("total", x.total(0, 0), 10);
        Due.is("total of a record", x.total(2, 1), 20);
        Due.is("total beside", x.total(5, 0), 0);
        Due.is("total of a node in a copy", x.total(8, 0), 0);
        Due.is("total of the chain", chain().total(0, 0), 1000000);
        Due.is("total of an empty directory", Due.loaded("field sum;dir 0 1").total(1, 0), 0);
        totalOverInts(1);
        totalOverInts(-1);
    }

    /** Three records at the bound of a sum are more than an int holds. */
    private static void totalOverInts(int sign) {
        LeasedTree x = Due.loaded("field sum;client;client;client;client;client;dir 0 1;record 1 1;record 1 2;record 1 3");
        int[] values = {-1000000, 1000000, -1000000, 1000000, -1000000, 1000000, -1000000};
        for (int round = 0; round < values.length; round++) {
            for (int c = 0; c < 5; c++) {
                x.lease(c, 1, 9, false);
            }
            for (int c = 0; c < 5; c++) {
                for (int n = 2; n <= 4; n++) {
                    x.setField(c, n, 0, sign * values[round]);
                }
            }
            for (int c = 0; c < 5; c++) {
                x.commit(c);
            }
        }
        long each = x.field(2, 0);
        Due.is("record at the bound", each, -sign * 1000000000L);
        Due.is("total of three at the bound", x.total(0, 0), -sign * 3000000000L);
        Due.is("total of three at the bound, below", x.total(1, 0), -sign * 3000000000L);
        Due.is("greatest of three at the bound", x.greatest(0, 0), 2);
    }

    /** Promise 31: "the alive record ... with the greatest value of a field, the lowest number among several". */
    private static void greatestBounds() {
        Twins.Recipe recipe = () -> Due.loaded("field sum;field sum;client;dir 0 1;record 1 9;record 1 8;record 0 2;dir 0 3;"
                + "value 2 0 -1000000;value 3 0 -1000000;value 4 0 -1000000;value 3 1 5;value 4 1 5");
        LeasedTree x = recipe.make();
        Due.is("the lowest of three", x.greatest(0, 0), 2);
        Due.is("the lowest of two", x.greatest(0, 1), 3);
        Due.is("a record", x.greatest(4, 0), 4);
        Due.is("of a directory", x.greatest(1, 1), 3);
        Twins.refused("no record", Due.ELEMENT, recipe, y -> y.greatest(5, 0));
        Twins.refused("field before no record", Due.INDEX, recipe, y -> y.greatest(5, 2));
        Twins.refused("node before no record", Due.INDEX, recipe, y -> y.greatest(6, 0));
        Twins.refused("record in a copy", Due.ELEMENT, Worlds::leased, y -> y.greatest(8, 0));
        x.lease(0, 0, 9, false);
        x.setField(0, 2, 0, 5);
        x.removeNode(0, 3);
        Due.is("the copy is not asked", x.greatest(0, 1), 3);
        x.commit(0);
        Due.is("dead records do not count", x.greatest(0, 1), 4);
        Due.fails("dead record", Due.ELEMENT, () -> x.greatest(3, 1));
        Due.is("changed record", x.greatest(0, 0), 2);
        // Directories have fields of 0, but are no records.
        Due.is("negative values", x.greatest(4, 0), 4);
    }

    /** Promise 32: "0 the leased node, 1 the tick at which it ends, 2 whether it is exclusive", "NONE ...". */
    private static void leasedParts() {
        LeasedTree x = Worlds.leased();
        int[][] parts = {{1, 5, 0}, {5, 6, 1}, {-1, -1, -1}};
        for (int c = 0; c < 3; c++) {
            for (int what = 0; what < 3; what++) {
                Due.is("leased(" + c + ", " + what + ")", x.leased(c, what), parts[c][what]);
            }
        }
        for (int what : new int[] {3, -1, LEAST, MOST}) {
            Twins.refused("leased(0, " + what + ")", Due.ARGUMENT, Worlds::leased, y -> y.leased(0, what));
            Twins.refused("leased(2, " + what + ")", Due.ARGUMENT, Worlds::leased, y -> y.leased(2, what));
            Twins.refused("leased(3, " + what + ")", Due.INDEX, Worlds::leased, y -> y.leased(3, what));
        }
        LeasedTree z = Worlds.plain();
        z.lease(2, 0, 1, true);
        Due.is("leased root", z.leased(2, 0), 0);
        z.advance(1);
        Due.is("ended lease", z.leased(2, 0), -1);
    }

    /** Promise 33: "whether this has one itself or not", "bit c is set for client c". */
    private static void blockersBounds() {
        LeasedTree x = Due.loaded("client;client;client;client;client;dir 0 1;dir 1 1;record 0 2");
        for (int c = 0; c < 5; c++) {
            x.lease(c, c % 3, 9, false);
        }
        Due.is("all but client 0", x.blockers(0, 0, true), 30);
        Due.is("all but client 4", x.blockers(4, 2, true), 15);
        Due.is("all but client 2", x.blockers(2, 1, true), 27);
        Due.is("those above a record", x.blockers(1, 3, true), 9);
        Due.is("shared", x.blockers(0, 0, false), 0);
        LeasedTree y = Worlds.leased();
        Due.is("client with a lease", y.blockers(0, 0, false), 2);
        Due.is("client with an exclusive lease", y.blockers(1, 5, true), 0);
        Due.is("client without one", y.blockers(2, 0, true), 3);
        Due.is("node in a copy", y.blockers(2, 8, true), 1);
        for (int node : NO_NODE) {
            Twins.refused("blockers of " + node, Due.INDEX, Worlds::leased, z -> z.blockers(0, node, true));
        }
    }

    /** Promise 34: "Returns the earliest tick", "NoSuchElementException if there are no leases". */
    private static void nextEndBounds() {
        Twins.refused("nextEnd without clients", Due.ELEMENT, LeasedTree::new, LeasedTree::nextEnd);
        Twins.refused("nextEnd without leases", Due.ELEMENT, Worlds::quarrel, LeasedTree::nextEnd);
        LeasedTree x = Worlds.leased();
        Due.is("earliest of two", x.nextEnd(), 5);
        x.renew(0, 7);
        Due.is("earliest of two, renewed", x.nextEnd(), 6);
        x.advance(6);
        Due.is("earliest of one", x.nextEnd(), 7);
        x.advance(1);
        Due.fails("none left", Due.ELEMENT, x::nextEnd);
        Due.is("a lease of the last client", x.lease(2, 0, 100, true), 107);
        Due.is("earliest of the last client", x.nextEnd(), 107);
    }

    private static void isInCopyBounds() {
        for (int node : NO_NODE) {
            Twins.refused("isInCopy of " + node, Due.INDEX, Worlds::leased, x -> x.isInCopy(0, node));
            Twins.refused("isInCopy of " + node + " before lease", Due.INDEX, Worlds::leased, x -> x.isInCopy(2, node));
        }
        Twins.refused("isInCopy without a lease", Due.STATE, Worlds::leased, x -> x.isInCopy(2, 1));
        int[] in = {0, 1, 1, 0, 0, 0, 0, 1, 1};
        for (int n = 0; n < in.length; n++) {
            Due.is("isInCopy of " + n, Worlds.leased().isInCopy(0, n), in[n] == 1);
        }
        LeasedTree full = Worlds.full();
        Due.is("isInCopy of the last", full.isInCopy(0, 59), true);
        Due.is("isInCopy of the last, another copy", full.isInCopy(1, 59), false);
    }

    /** Promise 36: "IndexOutOfBounds (checked first)", "no lease, or the node is not alive in its copy". */
    private static void copyFieldBounds() {
        for (int node : NO_NODE) {
            Twins.refused("copyField of " + node, Due.INDEX, Worlds::leased, x -> x.copyField(0, node, 0));
            Twins.refused("copyField of " + node + " before lease", Due.INDEX, Worlds::leased,
                    x -> x.copyField(2, node, 0));
        }
        for (int field : NO_FIELD) {
            Twins.refused("copyField, field " + field, Due.INDEX, Worlds::leased, x -> x.copyField(0, 2, field));
            Twins.refused("copyField, field " + field + " before lease", Due.INDEX, Worlds::leased,
                    x -> x.copyField(2, 2, field));
            Twins.refused("copyField, field " + field + " before copy", Due.INDEX, Worlds::leased,
                    x -> x.copyField(0, 6, field));
        }
        Twins.refused("copyField without a lease", Due.STATE, Worlds::leased, x -> x.copyField(2, 2, 0));
        Twins.refused("copyField of a removed node", Due.STATE, Worlds::leased, x -> x.copyField(0, 4, 0));
        Twins.refused("copyField outside", Due.STATE, Worlds::leased, x -> x.copyField(0, 6, 0));
        Twins.refused("copyField in another copy", Due.STATE, Worlds::leased, x -> x.copyField(1, 8, 0));
        Due.is("copyField", Worlds.leased().copyField(0, 2, 0), 11);
        Due.is("copyField of a directory", Worlds.leased().copyField(0, 1, 2), 0);
        Due.is("copyField of an added node", Worlds.leased().copyField(0, 8, 2), 0);
    }

    private static void changedCountBounds() {
        Twins.refused("changedCount without a lease", Due.STATE, Worlds::leased, x -> x.changedCount(2));
        Due.is("changedCount of one", Worlds.leased().changedCount(0), 1);
        Due.is("changedCount of none", Worlds.leased().changedCount(1), 0);
        LeasedTree x = Worlds.fortyConflicts();
        x.lease(0, 0, 9, false);
        for (int i = 0; i < 44; i++) {
            x.setField(0, 1 + i / 4, i % 4, 500);
        }
        Due.is("changedCount of 44", x.changedCount(0), 44);
        Due.is("abandon of 44", x.abandon(0), 44);
    }

    /** Promise 38: "the number of conflicts that commit() would add now". */
    private static void previewBounds() {
        Twins.refused("preview without a lease", Due.STATE, Worlds::leased, x -> x.preview(2));
        Due.is("preview of none", Worlds.leased().preview(0), 0);
        LeasedTree x = Worlds.quarrel();
        x.undo();
        for (int i = 0; i < 3; i++) {
            Due.is("preview of five", x.preview(1), 5);
        }
        Due.is("preview adds none", x.conflictCount(), 0);
        Due.is("preview merges none", x.field(6, 2), 5);
        Due.is("preview ends no lease", x.leased(1, 0), 0);
        Due.is("preview is no change", x.undoCount(), 7);
        Due.is("commit as previewed", x.commit(1), 5);
    }

    /** Promise 39: first, second, and "NoSuchElementException if the node would not be alive in the trunk then". */
    private static void wouldBeBounds() {
        for (int node : NO_NODE) {
            Twins.refused("wouldBe of " + node, Due.INDEX, Worlds::leased, x -> x.wouldBe(0, node, 0));
            Twins.refused("wouldBe of " + node + " before lease", Due.INDEX, Worlds::leased, x -> x.wouldBe(2, node, 0));
        }
        for (int field : NO_FIELD) {
            Twins.refused("wouldBe, field " + field, Due.INDEX, Worlds::leased, x -> x.wouldBe(0, 2, field));
            Twins.refused("wouldBe, field " + field + " before lease", Due.INDEX, Worlds::leased,
                    x -> x.wouldBe(2, 2, field));
            Twins.refused("wouldBe, field " + field + " before the node", Due.INDEX, Worlds::leased,
                    x -> x.wouldBe(0, 4, field));
        }
        Twins.refused("wouldBe without a lease", Due.STATE, Worlds::leased, x -> x.wouldBe(2, 2, 0));
        Twins.refused("lease before the node", Due.STATE, Worlds::leased, x -> x.wouldBe(2, 8, 0));
        Twins.refused("wouldBe of a removed node", Due.ELEMENT, Worlds::leased, x -> x.wouldBe(0, 3, 0));
        Twins.refused("wouldBe of another copy's node", Due.ELEMENT, Worlds::leased, x -> x.wouldBe(1, 8, 0));
        Twins.refused("wouldBe of a dead node", Due.ELEMENT, EdgeAnswersTest::beforeTheQuarrel, x -> x.wouldBe(1, 4, 0));
        Twins.refused("wouldBe of a refused node", Due.ELEMENT, EdgeAnswersTest::beforeTheQuarrel,
                x -> x.wouldBe(1, 8, 0));
        Due.is("wouldBe of a changed field", Worlds.leased().wouldBe(0, 2, 0), 11);
        Due.is("wouldBe of an added node", Worlds.leased().wouldBe(0, 8, 0), 0);
        Due.is("wouldBe outside of the copy", Worlds.leased().wouldBe(1, 2, 0), 10);
        Due.is("wouldBe of a directory", Worlds.leased().wouldBe(0, 1, 0), 0);
        Due.is("wouldBe of a refused value", beforeTheQuarrel().wouldBe(1, 2, 1), 1);
        Due.is("wouldBe of a refused removal", beforeTheQuarrel().wouldBe(1, 6, 2), 5);
    }

    private static LeasedTree beforeTheQuarrel() {
        LeasedTree x = Worlds.quarrel();
        x.undo();
        return x;
    }

    /** Promise 40: "one of the clients does not exist (first)", "both are the same (second)", "one of them has no lease". */
    private static void isFreeOrder() {
        Twins.refused("other does not exist", Due.INDEX, Worlds::leased, x -> x.isFree(0, 3));
        Twins.refused("client does not exist", Due.INDEX, Worlds::leased, x -> x.isFree(3, 0));
        Twins.refused("both do not exist", Due.INDEX, Worlds::leased, x -> x.isFree(3, 3));
        Twins.refused("other does not exist, client has no lease", Due.INDEX, Worlds::leased, x -> x.isFree(2, -1));
        Twins.refused("both are the same", Due.ARGUMENT, Worlds::leased, x -> x.isFree(0, 0));
        Twins.refused("both are the same, without a lease", Due.ARGUMENT, Worlds::leased, x -> x.isFree(2, 2));
        Twins.refused("other has no lease", Due.STATE, Worlds::leased, x -> x.isFree(0, 2));
        Twins.refused("client has no lease", Due.STATE, Worlds::leased, x -> x.isFree(2, 0));
        Twins.refused("both have no lease", Due.STATE, Worlds::plain, x -> x.isFree(0, 1));
    }

    private static void free(String what, LeasedTree x, boolean want) {
        Due.is("free: " + what, x.isFree(0, 1), want);
        Due.is("free: " + what + ", turned round", x.isFree(1, 0), want);
    }

    private static LeasedTree two(String setup) {
        LeasedTree x = Due.loaded(setup);
        x.lease(0, 0, 50, false);
        x.lease(1, 0, 50, false);
        return x;
    }

    /** Promise 40: "the same nodes are alive with the same fields in the trunk, and the same number of conflicts is added". */
    private static void isFreeBounds() {
        free("leases that do not touch", Worlds.leased(), true);
        LeasedTree x = two(Worlds.SETUP);
        free("nothing changed", x, true);
        x.setField(0, 2, 2, 5);
        free("one of both changed", x, true);
        x.setField(1, 2, 2, 6);
        free("one field apart", x, false);
        x.setField(1, 2, 2, 5);
        free("the same value", x, true);
        x.addNode(0, 1, 9, true);
        x.addNode(1, 1, 9, true);
        free("the same label: another node alive", x, false);
        LeasedTree y = two(Worlds.SETUP);
        y.setField(0, 2, 1, 5);
        y.setField(1, 2, 1, 6);
        free("as many conflicts, another value", y, false);
        LeasedTree z = two(Worlds.SETUP);
        z.setField(0, 4, 2, 5);
        z.removeNode(1, 3);
        free("as many conflicts, another node alive", z, false);
        for (String rule : new String[] {"max", "min", "sum"}) {
            LeasedTree v = two("field " + rule + ";client;client;record 0 1");
            v.setField(0, 1, 0, 5);
            v.setField(1, 1, 0, -6);
            free(rule, v, true);
        }
        LeasedTree w = two("field bits;client;client;record 0 1;value 1 0 5");
        w.setField(0, 1, 0, 4);
        w.setField(1, 1, 0, 2);
        free("bits", w, true);
        conflictsAlone();
    }

    /** The node ends dead either way, but is refused field by field, or once. */
    private static void conflictsAlone() {
        for (int fields = 1; fields <= 2; fields++) {
            LeasedTree x = Due.loaded("field first;field first;client;client;client;record 0 1");
            x.lease(0, 0, 50, false);
            x.lease(2, 0, 50, false);
            for (int f = 0; f < fields; f++) {
                x.setField(0, 1, f, 5);
                x.setField(2, 1, f, 6);
            }
            x.commit(2);
            x.lease(1, 0, 50, false);
            x.removeNode(1, 1);
            free(fields + " conflicts or one", x, fields == 1);
        }
    }

    /** Promise 41: "Returns 0 to 40." */
    private static void conflictCountBounds() {
        Due.is("no conflicts", new LeasedTree().conflictCount(), 0);
        Due.is("five conflicts", Worlds.quarrel().conflictCount(), 5);
        LeasedTree x = Worlds.fortyConflicts();
        Due.is("forty conflicts", x.conflictCount(), 40);
        for (int left = 39; left >= 0; left--) {
            x.resolve(left / 2, false);
            Due.is("conflicts left " + left, x.conflictCount(), left);
        }
        Due.fails("no conflict left", Due.INDEX, () -> x.resolve(0, false));
    }

    /** Promise 42: "what: 0 its kind, ... 5 the tick", "if what is out of range". */
    private static void conflictParts() {
        for (int what : new int[] {6, -1, LEAST, MOST}) {
            Twins.refused("conflict(0, " + what + ")", Due.ARGUMENT, Worlds::quarrel, x -> x.conflict(0, what));
            Twins.refused("conflict(4, " + what + ")", Due.ARGUMENT, Worlds::quarrel, x -> x.conflict(4, what));
            Twins.refused("conflict(5, " + what + ")", Due.INDEX, Worlds::quarrel, x -> x.conflict(5, what));
        }
        LeasedTree x = Worlds.quarrel();
        Due.is("field of kind 0", x.conflict(2, 2), 1);
        Due.is("value of kind 0", x.conflict(2, 3), 2);
        for (int i : new int[] {0, 1, 3, 4}) {
            Due.is("field of another kind", x.conflict(i, 2), -1);
            Due.is("value of another kind", x.conflict(i, 3), 0);
        }
    }

    /** Promise 43: "kind: 0 to 4". */
    private static void conflictsOfKinds() {
        LeasedTree x = Worlds.quarrel();
        for (int kind = 0; kind < 5; kind++) {
            Due.is("conflicts of kind " + kind, x.conflictsOf(kind), 1);
            Due.is("no conflicts of kind " + kind, Worlds.leased().conflictsOf(kind), 0);
        }
        x.resolve(4, false);
        Due.is("one conflict of kind 4 less", x.conflictsOf(4), 0);
        Due.is("forty of kind 0", Worlds.fortyConflicts().conflictsOf(0), 40);
        for (int kind : new int[] {5, -1, LEAST, MOST}) {
            Twins.refused("conflictsOf(" + kind + ")", Due.ARGUMENT, Worlds::quarrel, y -> y.conflictsOf(kind));
        }
    }
}
