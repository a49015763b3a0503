/** Sections 2, 5 and 6: rules, the three steps of merging and the accepting of conflicts (promises 11 and 13). */
public final class MergeTest {
    private static final int SUM = 0;
    private static final int MAX = 1;
    private static final int MIN = 2;
    private static final int BITS = 3;
    private static final int FIRST = 4;
    private static final int LAST = 5;

    private static final String RULES = "field sum;field max;field min;field bits;field first;field last;";

    public static void main(String[] args) {
        rules();
        sumLimits();
        unchangedFieldsAreNotMerged();
        fieldsOfNeighbours();
        addedNodes();
        addedBesideRemoved();
        changedButGone();
        removedTops();
        removedButChanged();
        stepsInOrder();
        leasedNodeGone();
        acceptValue();
        acceptRemoval();
        latestConflicts();
        Due.end("MergeTest");
    }

    /** The value that a field with the rule gets when t, which came from b, is merged with c. */
    private static void rule(int rule, int b, int c, int t, int want, int conflicts) {
        String of = "rule " + rule + " of " + b + ", " + c + ", " + t;
        LeasedTree x = Due.loaded(RULES + "client;client;record 0 1;value 1 " + rule + " " + b);
        x.lease(0, 1, 9, false);
        x.lease(1, 0, 9, false);
        x.setField(0, 1, rule, c);
        x.setField(1, 1, rule, t);
        x.commit(1);
        // max and min can keep a value back: then the case itself is wrong.
        if (x.field(1, rule) != t) {
            Due.wrong(of + ": the trunk could not be brought to " + t);
        }
        Due.is(of + ": preview", x.preview(0), conflicts);
        Due.is(of + ": wouldBe", x.wouldBe(0, 1, rule), want);
        Due.is(of + ": conflicts", x.commit(0), conflicts);
        Due.is(of, x.field(1, rule), want);
    }

    private static void rules() {
        rule(SUM, 100, 130, 90, 120, 0);
        rule(SUM, 0, 5, 5, 10, 0);
        rule(SUM, -7, -9, 3, 1, 0);
        rule(MAX, 10, 15, 12, 15, 0);
        rule(MAX, 10, 12, 15, 15, 0);
        rule(MAX, 10, 5, 12, 12, 0);
        rule(MAX, 10, 5, 10, 10, 0);
        rule(MIN, 10, 5, 7, 5, 0);
        rule(MIN, 10, 7, 5, 5, 0);
        rule(MIN, 10, 15, 7, 7, 0);
        rule(MIN, 10, 15, 10, 10, 0);
        rule(BITS, 6, 3, 14, 11, 0);
        rule(BITS, 12, 10, 9, 11, 0);
        rule(BITS, 0, -1, 5, -1, 0);
        rule(BITS, -1, 0, 5, 0, 0);
        rule(BITS, -1, -2, 6, 6, 0);
        rule(FIRST, 4, 9, 4, 9, 0);
        rule(FIRST, 4, 9, 9, 9, 0);
        rule(FIRST, 4, 9, 7, 7, 1);
        rule(LAST, 4, 9, 4, 9, 0);
        rule(LAST, 4, 9, 7, 9, 0);
    }

    private static void sumLimits() {
        LeasedTree x = Due.loaded("field sum;client;client;client;client;client;record 0 1;value 1 0 -1000000");
        // Five leases change the same base, so that each round swings the trunk farther out.
        Due.is("sum 1", swing(x, 1000000), 9000000);
        Due.is("sum 2", swing(x, -1000000), -41000000);
        Due.is("sum 3", swing(x, 1000000), 169000000);
        Due.is("sum 4", swing(x, -1000000), -681000000);
        Due.is("sum 5", swing(x, 1000000), 1000000000);
        Due.is("sum 6", swing(x, -1000000), -1000000000);
        Due.is("total of a sum", x.total(0, 0), -1000000000);
    }

    private static int swing(LeasedTree x, int value) {
        for (int c = 0; c < 5; c++) {
            x.lease(c, 1, 9, false);
            x.setField(c, 1, 0, value);
        }
        for (int c = 0; c < 5; c++) {
            x.commit(c);
        }
        return x.field(1, 0);
    }

    private static void unchangedFieldsAreNotMerged() {
        LeasedTree x = Due.loaded(RULES + "client;client;record 0 1;value 1 5 3;value 1 4 3");
        x.lease(0, 0, 9, false);
        x.lease(1, 0, 9, false);
        x.setField(0, 1, LAST, 9);
        x.setField(0, 1, LAST, 3);
        x.setField(0, 1, FIRST, 8);
        x.setField(0, 1, FIRST, 3);
        x.setField(1, 1, LAST, 4);
        x.setField(1, 1, FIRST, 5);
        x.commit(1);
        Due.is("unchanged: conflicts", x.commit(0), 0);
        Due.is("unchanged: last", x.field(1, LAST), 4);
        Due.is("unchanged: first", x.field(1, FIRST), 5);
    }

    private static void fieldsOfNeighbours() {
        LeasedTree x = Due.loaded(RULES + "client;record 0 1;record 0 2");
        x.lease(0, 0, 9, false);
        for (int f = 0; f < 6; f++) {
            x.setField(0, 1, f, f == MIN ? -7 : 10 + f);
            x.setField(0, 2, f, f == MIN ? -8 : 20 + f);
        }
        Due.is("neighbours: changed", x.changedCount(0), 12);
        Due.is("neighbours: conflicts", x.commit(0), 0);
        for (int f = 0; f < 6; f++) {
            Due.is("neighbours: field " + f + " of 1", x.field(1, f), f == MIN ? -7 : 10 + f);
            Due.is("neighbours: field " + f + " of 2", x.field(2, f), f == MIN ? -8 : 20 + f);
        }
    }

    private static void conflict(LeasedTree x, int index, int... parts) {
        for (int what = 0; what < parts.length; what++) {
            Due.is("conflict(" + index + ", " + what + ")", x.conflict(index, what), parts[what]);
        }
    }

    private static void addedNodes() {
        LeasedTree x = Due.loaded("field last;field sum;client;client;dir 0 1;dir 1 2");
        x.lease(0, 0, 99, false);
        x.lease(1, 0, 99, false);
        x.addNode(0, 1, 5, false);
        x.addNode(1, 1, 5, true);
        x.addNode(0, 3, 7, true);
        x.setField(0, 5, 1, 44);
        x.setField(1, 4, 0, 66);
        x.addNode(0, 2, 8, true);
        x.addNode(0, 2, 9, true);
        x.removeNode(0, 7);
        x.addNode(1, 2, 9, true);
        x.advance(3);
        Due.is("added: none refused", x.commit(1), 0);
        Due.is("added: joined", x.node(4, 3), 1);
        Due.is("added: with its fields", x.field(4, 0), 66);
        Due.is("added: of the other copy", x.node(3, 3), 0);
        Due.is("added: label and parent refused", x.commit(0), 2);
        conflict(x, 0, 3, 3, -1, 0, 0, 3);
        conflict(x, 1, 2, 5, -1, 0, 0, 3);
        Due.is("added: refused one is not alive", x.node(3, 3), 0);
        Due.is("added: below a refused one", x.node(5, 3), 0);
        Due.is("added: beside", x.node(6, 3), 1);
        Due.is("added: removed again", x.node(7, 3), 0);
        Due.is("added: never alive", x.field(5, 1), 0);
        Due.is("added: found", x.find(1, 5), 4);
    }

    private static void addedBesideRemoved() {
        LeasedTree x = Due.loaded("client;dir 0 1;record 1 2");
        x.lease(0, 0, 99, false);
        x.removeNode(0, 2);
        Due.is("same label", x.addNode(0, 1, 2, true), 3);
        // Nodes are added before others are removed, so the label is still taken.
        Due.is("same label: refused", x.commit(0), 1);
        conflict(x, 0, 3, 3, -1, 0, 0, 0);
        Due.is("same label: removed all the same", x.node(2, 3), 0);
        Due.is("same label: not alive", x.node(3, 3), 0);
    }

    private static void changedButGone() {
        LeasedTree x = Due.loaded("field first;field last;client;client;dir 0 1;record 1 2;record 1 3");
        x.lease(0, 0, 99, false);
        x.lease(1, 0, 99, false);
        x.setField(0, 2, 0, 5);
        x.setField(0, 2, 1, 5);
        x.setField(0, 3, 1, 6);
        x.removeNode(1, 2);
        Due.is("gone: removed", x.commit(1), 0);
        x.advance(9);
        Due.is("gone: one conflict a node", x.commit(0), 1);
        conflict(x, 0, 1, 2, -1, 0, 0, 9);
        Due.is("gone: field as it was", x.field(2, 1), 0);
        Due.is("gone: the other one", x.field(3, 1), 6);
    }

    private static void removedTops() {
        LeasedTree x = Due.loaded("field last;client;client;dir 0 1;dir 1 2;record 2 3;dir 0 4;record 4 5;value 3 0 7");
        x.lease(0, 0, 99, false);
        x.lease(1, 4, 99, false);
        x.removeNode(0, 2);
        x.removeNode(0, 1);
        x.removeNode(0, 4);
        x.removeNode(1, 5);
        Due.is("tops: other copy", x.commit(1), 0);
        Due.is("tops", x.commit(0), 0);
        Due.is("tops: size", x.size(0), 1);
        Due.is("tops: field as it was", x.field(3, 0), 7);
        Due.is("tops: fields of directories", x.field(1, 0), 0);
    }

    private static void removedButChanged() {
        LeasedTree x = Due.loaded("field last;client;client;client;dir 0 1;dir 1 2;record 2 3;dir 0 4;record 4 5");
        x.lease(0, 0, 99, false);
        x.lease(1, 0, 99, false);
        x.removeNode(0, 1);
        x.removeNode(0, 4);
        x.setField(1, 3, 0, 5);
        x.addNode(1, 4, 9, false);
        x.commit(1);
        Due.is("changed below, added below: preview", x.preview(0), 2);
        Due.is("changed below, added below", x.commit(0), 2);
        conflict(x, 0, 4, 1, -1, 0, 0, 0);
        conflict(x, 1, 4, 4, -1, 0, 0, 0);
        Due.is("nothing is removed", x.size(0), 7);
        x.undo();
        // What was changed back is as in the base.
        x.lease(1, 0, 99, false);
        x.setField(1, 3, 0, 0);
        x.removeNode(1, 6);
        x.commit(1);
        Due.is("changed back", x.commit(0), 0);
        Due.is("changed back: removed", x.size(0), 1);
    }

    private static void stepsInOrder() {
        LeasedTree x = Due.loaded("field first;field last;field first;client;client;dir 0 1;record 1 2;record 1 3;record 0 4");
        x.lease(0, 0, 99, false);
        x.lease(1, 0, 99, false);
        x.setField(0, 4, 2, 5);
        x.setField(0, 4, 1, 5);
        x.setField(0, 4, 0, 5);
        x.setField(0, 3, 0, 5);
        x.removeNode(0, 2);
        x.addNode(0, 0, 9, false);
        x.addNode(0, 5, 9, false);
        x.addNode(1, 0, 9, false);
        x.removeNode(1, 3);
        x.setField(1, 2, 1, 8);
        x.setField(1, 4, 0, 6);
        x.setField(1, 4, 1, 6);
        x.setField(1, 4, 2, 6);
        Due.is("steps: first", x.commit(1), 0);
        Due.is("steps: preview", x.preview(0), 6);
        Due.is("steps: wouldBe merged by last", x.wouldBe(0, 4, 1), 5);
        Due.is("steps: preview leaves the list", x.conflictCount(), 0);
        Due.is("steps: second", x.commit(0), 6);
        conflict(x, 0, 3, 5, -1, 0, 0, 0);
        conflict(x, 1, 2, 6, -1, 0, 0, 0);
        conflict(x, 2, 1, 3, -1, 0, 0, 0);
        conflict(x, 3, 0, 4, 0, 5, 0, 0);
        conflict(x, 4, 0, 4, 2, 5, 0, 0);
        conflict(x, 5, 4, 2, -1, 0, 0, 0);
        Due.is("steps: field by last", x.field(4, 1), 5);
    }

    private static void leasedNodeGone() {
        LeasedTree x = Due.loaded("field last;client;client;dir 0 1;dir 1 2;record 2 3;record 2 4");
        x.lease(0, 2, 99, false);
        x.lease(1, 0, 99, false);
        x.removeNode(0, 4);
        x.setField(0, 3, 0, 9);
        x.addNode(0, 2, 9, true);
        x.removeNode(1, 1);
        x.commit(1);
        Due.is("leased node gone: lease", x.leased(0, 0), 2);
        Due.is("leased node gone: blockers", x.blockers(1, 3, true), 1);
        Due.is("leased node gone: conflicts", x.commit(0), 2);
        conflict(x, 0, 2, 5, -1, 0, 0, 0);
        conflict(x, 1, 1, 3, -1, 0, 0, 0);
        Due.is("leased node gone: size", x.size(0), 1);
    }

    private static LeasedTree withRefusedValue() {
        LeasedTree x = Due.loaded("field last;field first;client;client;client;dir 0 1;record 1 2");
        x.lease(0, 0, 99, false);
        x.lease(1, 0, 99, false);
        x.setField(0, 2, 1, 5);
        x.setField(1, 2, 1, 6);
        x.commit(0);
        x.commit(1);
        return x;
    }

    private static void acceptValue() {
        LeasedTree x = withRefusedValue();
        conflict(x, 0, 0, 2, 1, 6, 1, 0);
        Due.fails("resolve(-1)", Due.INDEX, () -> x.resolve(-1, true));
        Due.fails("resolve(1)", Due.INDEX, () -> x.resolve(1, false));
        Due.is("accepted", x.resolve(0, true), 0);
        Due.is("accepted: field", x.field(2, 1), 6);
        LeasedTree y = withRefusedValue();
        Due.is("not accepted", y.resolve(0, false), 0);
        Due.is("not accepted: field", y.field(2, 1), 5);
        LeasedTree z = withRefusedValue();
        z.lease(2, 0, 99, true);
        z.removeNode(2, 2);
        z.commit(2);
        Due.fails("accepted, but gone", Due.STATE, () -> z.resolve(0, true));
        Due.is("accepted, but gone: kept", z.conflictCount(), 1);
        Due.is("accepted, but gone: field", z.field(2, 1), 5);
        Due.is("not accepted, and gone", z.resolve(0, false), 0);
    }

    private static void acceptRemoval() {
        LeasedTree x = Due.loaded("field last;client;client;dir 0 1;record 1 2;record 0 3");
        x.lease(0, 0, 99, false);
        x.lease(1, 0, 99, false);
        x.addNode(0, 0, 7, false);
        x.addNode(0, 4, 7, true);
        x.removeNode(0, 1);
        x.setField(0, 3, 0, 4);
        x.addNode(1, 0, 7, true);
        x.addNode(1, 1, 9, true);
        x.setField(1, 2, 0, 5);
        x.removeNode(1, 3);
        x.commit(1);
        Due.is("refused removal", x.commit(0), 4);
        conflict(x, 0, 3, 4, -1, 0, 0, 0);
        conflict(x, 1, 2, 5, -1, 0, 0, 0);
        conflict(x, 2, 1, 3, -1, 0, 0, 0);
        conflict(x, 3, 4, 1, -1, 0, 0, 0);
        for (int i = 0; i < 3; i++) {
            int index = i;
            Due.fails("accepting of kind " + (3 - i), Due.STATE, () -> x.resolve(index, true));
        }
        Due.is("refused removal: size", x.size(1), 3);
        Due.is("accepted removal", x.resolve(3, true), 3);
        Due.is("accepted removal: size", x.size(1), 0);
        Due.is("accepted removal: beside", x.size(0), 2);
        Due.is("accepted removal: below", x.node(7, 3), 0);
        Due.is("accepted removal: field as it was", x.field(2, 0), 5);
        x.undo();
        Due.is("accepted removal undone", x.size(1), 3);
        x.lease(0, 0, 9, true);
        x.removeNode(0, 1);
        x.commit(0);
        Due.fails("accepting of a removal of what is gone", Due.STATE, () -> x.resolve(3, true));
        Due.is("not accepting it", x.resolve(3, false), 3);
    }

    private static void latestConflicts() {
        StringBuilder text = new StringBuilder("field first;field first;field first;field first;field first;client;client");
        for (int label = 0; label < 9; label++) {
            text.append(";record 0 ").append(label);
        }
        LeasedTree x = Due.loaded(text.toString());
        x.lease(0, 0, 99, false);
        x.lease(1, 0, 99, false);
        for (int n = 1; n <= 9; n++) {
            for (int f = 0; f < 5; f++) {
                x.setField(0, n, f, 1);
                x.setField(1, n, f, 10 * n + f);
            }
        }
        Due.is("45 conflicts: none", x.commit(0), 0);
        Due.is("45 conflicts: preview", x.preview(1), 45);
        Due.is("45 conflicts: added", x.commit(1), 45);
        Due.is("45 conflicts: kept", x.conflictCount(), 40);
        conflict(x, 0, 0, 2, 0, 20, 1, 0);
        conflict(x, 39, 0, 9, 4, 94, 1, 0);
        Due.fails("conflict(40, 0)", Due.INDEX, () -> x.conflict(40, 0));
        Due.is("resolve the middle", x.resolve(7, true), 39);
        Due.is("resolve the middle: field", x.field(3, 2), 32);
        conflict(x, 6, 0, 3, 1, 31, 1, 0);
        conflict(x, 7, 0, 3, 3, 33, 1, 0);
        Due.is("resolve the last", x.resolve(38, false), 38);
        conflict(x, 37, 0, 9, 3, 93, 1, 0);
        Due.is("resolve the first", x.resolve(0, false), 37);
        conflict(x, 0, 0, 2, 1, 21, 1, 0);
        x.undo();
        x.undo();
        x.undo();
        Due.is("resolving undone", x.conflictCount(), 40);
        Due.is("resolving undone: field", x.field(3, 2), 1);
        x.lease(0, 0, 9, false);
        x.lease(1, 0, 9, false);
        x.setField(0, 1, 0, 50);
        x.setField(1, 1, 0, 60);
        x.advance(9);
        Due.is("one more: kept", x.conflictCount(), 40);
        conflict(x, 0, 0, 2, 1, 21, 1, 0);
        conflict(x, 39, 0, 1, 0, 60, 1, 9);
    }
}
