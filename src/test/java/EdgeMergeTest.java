/** The boundaries of merging and of conflicts: sections 5 and 6 of the description, sentence by sentence. */
public final class EdgeMergeTest {
    private static final int LEAST = Integer.MIN_VALUE;
    private static final int MOST = Integer.MAX_VALUE;

    public static void main(String[] args) {
        stepsByIncreasingNumber();
        addedAndAlive();
        parentNotAlive();
        sameParentAndLabel();
        becomesAliveWithItsFields();
        oneConflictForANode();
        changedFieldsByNumber();
        tops();
        removedAlreadyDoesNothing();
        notInTheBase();
        differentFromTheBase();
        removedWithAllBelow();
        conflictParts();
        fortyConflicts();
        moreThanFortyAtOnce();
        acceptKindZero();
        acceptKindFour();
        otherKindsCannotBeAccepted();
        notAccepting();
        conflictBounds();
        Due.end("EdgeMergeTest");
    }

    /** Clients 0 and 1 hold the root of the plain world. */
    private static LeasedTree two() {
        LeasedTree x = Worlds.plain();
        x.lease(0, 0, 50, false);
        x.lease(1, 0, 50, false);
        return x;
    }

    private static void conflict(LeasedTree x, int index, int... parts) {
        for (int what = 0; what < parts.length; what++) {
            Due.is("conflict(" + index + ", " + what + ")", x.conflict(index, what), parts[what]);
        }
    }

    /** "Merging a copy has these three steps; each goes through the nodes by increasing number." */
    private static void stepsByIncreasingNumber() {
        LeasedTree x = Worlds.quarrel();
        Due.is("five conflicts", x.conflictCount(), 5);
        conflict(x, 0, 3, 8, -1, 0, 1, 3);
        conflict(x, 1, 2, 9, -1, 0, 1, 3);
        conflict(x, 2, 0, 2, 1, 2, 1, 3);
        conflict(x, 3, 1, 4, -1, 0, 1, 3);
        conflict(x, 4, 4, 6, -1, 0, 1, 3);
        LeasedTree y = two();
        y.removeNode(0, 5);
        y.removeNode(0, 2);
        y.addNode(0, 1, 8, true);
        y.addNode(0, 0, 8, true);
        y.setField(1, 6, 0, 1);
        y.setField(1, 2, 0, 1);
        y.addNode(1, 0, 8, true);
        y.addNode(1, 1, 8, true);
        y.commit(1);
        Due.is("two and two", y.commit(0), 4);
        conflict(y, 0, 3, 7, -1, 0, 0, 0);
        conflict(y, 1, 3, 8, -1, 0, 0, 0);
        conflict(y, 2, 4, 2, -1, 0, 0, 0);
        conflict(y, 3, 4, 5, -1, 0, 0, 0);
    }

    /** "each node that was added to this copy and is alive in it". */
    private static void addedAndAlive() {
        LeasedTree x = two();
        x.addNode(0, 0, 9, false);
        x.addNode(0, 7, 9, true);
        x.removeNode(0, 8);
        x.addNode(1, 0, 10, true);
        Due.is("added: conflicts", x.commit(0), 0);
        Due.is("added and alive", x.node(7, 3), 1);
        Due.is("added and removed", x.node(8, 3), 0);
        Due.is("added to another copy", x.node(9, 3), 0);
        x.lease(0, 0, 50, false);
        Due.is("added to an earlier copy of the client: in the base", x.isInCopy(0, 7), true);
        Due.is("added to an earlier copy of the client: conflicts", x.commit(0), 0);
        Due.is("added to an earlier copy of the client: alive", x.size(0), 8);
    }

    /** "If its parent is not alive in the trunk, this is a conflict of kind 2". */
    private static void parentNotAlive() {
        LeasedTree x = two();
        x.addNode(0, 5, 9, false);
        x.addNode(0, 7, 9, true);
        x.addNode(0, 1, 9, true);
        x.removeNode(1, 5);
        x.commit(1);
        Due.is("parent gone: wouldBe of the other", x.wouldBe(0, 9, 0), 0);
        Due.is("parent gone", x.commit(0), 2);
        conflict(x, 0, 2, 7, -1, 0, 0, 0);
        conflict(x, 1, 2, 8, -1, 0, 0, 0);
        Due.is("parent gone: not alive", x.node(7, 3) + x.node(8, 3), 0);
        Due.is("parent alive", x.node(9, 3), 1);
        LeasedTree y = two();
        y.addNode(0, 5, 9, true);
        y.removeNode(1, 6);
        y.commit(1);
        Due.is("parent alive, its child gone", y.preview(0), 0);
    }

    /** "otherwise, if an alive node in the trunk has the same parent and label, a conflict of kind 3". */
    private static void sameParentAndLabel() {
        LeasedTree x = two();
        x.addNode(0, 1, 9, true);
        x.addNode(0, 1, 10, true);
        x.addNode(0, 5, 11, true);
        x.addNode(1, 1, 9, false);
        x.addNode(1, 1, 11, false);
        x.commit(1);
        Due.is("same parent and label", x.commit(0), 1);
        conflict(x, 0, 3, 7, -1, 0, 0, 0);
        Due.is("same parent, other label", x.find(1, 10), 8);
        Due.is("other parent, same label", x.find(5, 11), 9);
        Due.is("the first one stays", x.find(1, 9), 10);
        LeasedTree y = two();
        y.removeNode(0, 2);
        y.addNode(0, 1, 2, true);
        y.removeNode(1, 2);
        y.commit(1);
        Due.is("label of a node that is dead in the trunk", y.commit(0), 0);
        Due.is("label of a node that is dead in the trunk: found", y.find(1, 2), 7);
        LeasedTree z = two();
        z.removeNode(0, 2);
        z.addNode(0, 1, 2, true);
        Due.is("label of a node that is removed later in this merge", z.commit(0), 1);
        conflict(z, 0, 3, 7, -1, 0, 0, 0);
        Due.is("removed later in this merge", z.size(1), 3);
    }

    /** "Otherwise it becomes alive in the trunk with the fields of the copy." */
    private static void becomesAliveWithItsFields() {
        LeasedTree x = two();
        x.addNode(0, 0, 9, true);
        x.setField(0, 7, 0, 1000000);
        x.setField(0, 7, 1, -1000000);
        x.addNode(1, 0, 9, true);
        x.setField(1, 8, 2, 3);
        Due.is("fields before", x.field(7, 0), 0);
        Due.is("wouldBe", x.wouldBe(0, 7, 1), -1000000);
        x.commit(0);
        Due.is("field 0", x.field(7, 0), 1000000);
        Due.is("field 1", x.field(7, 1), -1000000);
        Due.is("field 2", x.field(7, 2), 0);
        x.commit(1);
        Due.is("fields of a node that never was alive", x.field(8, 2), 0);
    }

    /** "each node with changed fields. If it is not alive in the trunk, this is one conflict of kind 1." */
    private static void oneConflictForANode() {
        LeasedTree x = two();
        for (int f = 0; f < 3; f++) {
            x.setField(0, 2, f, 40 + f);
            x.setField(0, 6, f, 60 + f);
        }
        x.setField(0, 4, 0, 0);
        x.removeNode(1, 1);
        x.commit(1);
        Due.is("one conflict for three fields, none for no change", x.commit(0), 1);
        conflict(x, 0, 1, 2, -1, 0, 0, 0);
        Due.is("fields of the dead node", x.field(2, 0), 10);
        Due.is("fields of the other node", x.field(6, 2), 62);
    }

    /** "Otherwise each changed field, by increasing number, is merged by its rule." */
    private static void changedFieldsByNumber() {
        LeasedTree x = Due.loaded("field first;field sum;field first;client;client;record 0 1");
        x.lease(0, 0, 50, false);
        x.lease(1, 0, 50, false);
        for (int f = 2; f >= 0; f--) {
            x.setField(0, 1, f, 10 + f);
            x.setField(1, 1, f, 20 + f);
        }
        x.commit(0);
        Due.is("two of three refused", x.commit(1), 2);
        conflict(x, 0, 0, 1, 0, 20, 1, 0);
        conflict(x, 1, 0, 1, 2, 22, 1, 0);
        Due.is("the third merged", x.field(1, 1), 32);
        Due.is("refused: the trunk's value", x.field(1, 0), 10);
        changedFieldsAlone();
    }

    /** A field that is not changed stays out of the merge, also if another one of its node is changed. */
    private static void changedFieldsAlone() {
        for (int changed = 0; changed < 3; changed++) {
            LeasedTree x = Due.loaded("field first;field last;field first;client;client;record 0 1;"
                    + "value 1 0 1;value 1 1 1;value 1 2 1");
            x.lease(0, 0, 50, false);
            x.lease(1, 0, 50, false);
            for (int f = 0; f < 3; f++) {
                x.setField(0, 1, f, 10 + f);
            }
            x.setField(1, 1, changed, 20);
            x.commit(0);
            Due.is("only field " + changed + " is merged", x.commit(1), changed == 1 ? 0 : 1);
            for (int f = 0; f < 3; f++) {
                Due.is("field " + f + " beside " + changed, x.field(1, f), f == 1 && changed == 1 ? 20 : 10 + f);
            }
        }
    }

    /** "each node in the base that is not alive in the copy and whose parent is alive in the copy". */
    private static void tops() {
        LeasedTree x = two();
        x.removeNode(0, 4);
        x.removeNode(0, 3);
        x.removeNode(0, 1);
        x.setField(1, 4, 2, 5);
        x.commit(1);
        Due.is("one top, one conflict", x.commit(0), 1);
        conflict(x, 0, 4, 1, -1, 0, 0, 0);
        Due.is("nothing below the top is removed", x.size(1), 4);
        LeasedTree y = two();
        y.removeNode(0, 4);
        y.removeNode(0, 2);
        y.setField(1, 4, 2, 5);
        y.setField(1, 2, 2, 5);
        y.commit(1);
        Due.is("two tops, two conflicts", y.commit(0), 2);
        conflict(y, 0, 4, 2, -1, 0, 0, 0);
        conflict(y, 1, 4, 4, -1, 0, 0, 0);
    }

    /** "If it is not alive in the trunk, nothing happens." */
    private static void removedAlreadyDoesNothing() {
        LeasedTree x = two();
        x.removeNode(0, 3);
        x.removeNode(1, 3);
        x.commit(1);
        Due.is("removed already", x.commit(0), 0);
        Due.is("removed already: size", x.size(0), 5);
        LeasedTree y = two();
        y.removeNode(0, 4);
        y.setField(1, 2, 0, 5);
        y.removeNode(1, 1);
        y.commit(1);
        Due.is("removed with its parent", y.commit(0), 0);
    }

    /** "If in the trunk some alive node at or below it is not in the base". */
    private static void notInTheBase() {
        LeasedTree x = two();
        x.removeNode(0, 3);
        x.addNode(1, 3, 9, true);
        x.commit(1);
        Due.is("one more below", x.preview(0), 1);
        Due.is("one more below: at the merge", x.commit(0), 1);
        conflict(x, 0, 4, 3, -1, 0, 0, 0);
        LeasedTree y = two();
        y.removeNode(0, 3);
        y.addNode(1, 1, 9, true);
        y.commit(1);
        Due.is("one more beside", y.commit(0), 0);
        LeasedTree z = two();
        z.removeNode(0, 3);
        z.addNode(1, 3, 9, true);
        z.commit(1);
        z.lease(1, 0, 50, false);
        z.removeNode(1, 7);
        z.commit(1);
        Due.is("one more below, but dead again", z.commit(0), 0);
        Due.is("one more below, but dead again: removed", z.node(3, 3), 0);
        LeasedTree w = two();
        w.removeNode(0, 3);
        w.removeNode(1, 4);
        w.commit(1);
        Due.is("one less below", w.commit(0), 0);
        Due.is("one less below: removed", w.node(3, 3), 0);
    }

    /** "or has a field different from that in the base, this is a conflict of kind 4". */
    private static void differentFromTheBase() {
        for (int f = 0; f < 3; f++) {
            LeasedTree x = two();
            x.removeNode(0, 1);
            x.setField(1, 4, f, 1);
            x.commit(1);
            Due.is("field " + f + " different below", x.commit(0), 1);
            conflict(x, 0, 4, 1, -1, 0, 0, 0);
        }
        LeasedTree x = two();
        x.removeNode(0, 2);
        x.setField(1, 2, 0, 11);
        x.commit(1);
        Due.is("field different at it", x.preview(0), 1);
        x.lease(1, 0, 50, false);
        x.setField(1, 2, 0, 10);
        x.commit(1);
        Due.is("field as in the base again", x.commit(0), 0);
        Due.is("field as in the base again: removed", x.node(2, 3), 0);
        LeasedTree y = two();
        y.removeNode(0, 3);
        y.setField(1, 2, 0, 11);
        y.commit(1);
        Due.is("field different beside", y.commit(0), 0);
    }

    /** "Otherwise it and all nodes below it are not alive in the trunk any more." */
    private static void removedWithAllBelow() {
        LeasedTree x = two();
        x.setField(0, 4, 0, 9);
        x.removeNode(0, 1);
        Due.is("removed", x.commit(0), 0);
        int[] alive = {1, 0, 0, 0, 0, 1, 1};
        for (int n = 0; n < alive.length; n++) {
            Due.is("removed: " + n, x.node(n, 3), alive[n]);
        }
        Due.is("field as it was when it was alive", x.field(2, 0), 10);
        Due.is("field as it was, not as in the copy", x.field(4, 0), 0);
    }

    /** "A conflict has a kind, a node, a client and a tick, and for kind 0 also a field and the value c". */
    private static void conflictParts() {
        LeasedTree x = Due.loaded("field first;client;client;client;client;client;record 0 1");
        x.advance(200);
        x.lease(4, 1, 9, false);
        x.lease(3, 1, 9, false);
        x.setField(4, 1, 0, -1000000);
        x.setField(3, 1, 0, 1000000);
        x.advance(7);
        Due.is("folded at 209", x.advance(2), 2);
        conflict(x, 0, 0, 1, 0, -1000000, 4, 209);
        LeasedTree y = Due.loaded("field first;client;client;record 0 1");
        y.lease(0, 1, 9, false);
        y.lease(1, 1, 9, false);
        y.setField(0, 1, 0, 1);
        y.setField(1, 1, 0, 2);
        y.commit(0);
        y.commit(1);
        conflict(y, 0, 0, 1, 0, 2, 1, 0);
    }

    /** One more conflict of kind 0, of node 11 and field 0, with the value 500. */
    private static void oneMore(LeasedTree x) {
        x.lease(0, 11, 9, false);
        x.lease(1, 11, 9, false);
        x.setField(0, 11, 0, 400);
        x.setField(1, 11, 0, 500);
        x.commit(0);
        Due.is("one more", x.commit(1), 1);
    }

    /** "The list keeps the latest 40 conflicts in the order in which they came." */
    private static void fortyConflicts() {
        LeasedTree x = Worlds.fortyConflicts();
        Due.is("forty", x.conflictCount(), 40);
        for (int i = 0; i < 40; i++) {
            conflict(x, i, 0, 1 + i / 4, i % 4, 10 * (1 + i / 4) + i % 4, 1, 0);
        }
        oneMore(x);
        Due.is("forty-one", x.conflictCount(), 40);
        Due.is("forty-one: of kind 0", x.conflictsOf(0), 40);
        conflict(x, 0, 0, 1, 1, 11, 1, 0);
        conflict(x, 38, 0, 10, 3, 103, 1, 0);
        conflict(x, 39, 0, 11, 0, 500, 1, 0);
        LeasedTree y = Worlds.fortyConflicts();
        Due.is("thirty-nine", y.resolve(39, false), 39);
        oneMore(y);
        Due.is("forty again", y.conflictCount(), 40);
        conflict(y, 0, 0, 1, 0, 10, 1, 0);
        conflict(y, 38, 0, 10, 2, 102, 1, 0);
        conflict(y, 39, 0, 11, 0, 500, 1, 0);
        Due.is("undo of the forty-first", x.undo(), 7);
        conflict(x, 0, 0, 1, 0, 10, 1, 0);
        conflict(x, 39, 0, 10, 3, 103, 1, 0);
    }

    /** "the latest 40 conflicts", where one merge adds more; commit() and preview() tell all that were added. */
    private static void moreThanFortyAtOnce() {
        for (int nodes = 10; nodes <= 11; nodes++) {
            LeasedTree x = Due.loaded("field first;".repeat(4) + "client;client;record 0 1;record 0 2;record 0 3;"
                    + "record 0 4;record 0 5;record 0 6;record 0 7;record 0 8;record 0 9;record 0 10;record 0 11");
            x.lease(0, 0, 90, false);
            x.lease(1, 0, 90, false);
            for (int i = 0; i < 4 * nodes; i++) {
                x.setField(0, 1 + i / 4, i % 4, 1);
                x.setField(1, 1 + i / 4, i % 4, 100 + i);
            }
            x.commit(0);
            Due.is("preview of " + 4 * nodes, x.preview(1), 4 * nodes);
            Due.is("commit of " + 4 * nodes, x.commit(1), 4 * nodes);
            Due.is("kept of " + 4 * nodes, x.conflictCount(), 40);
            Due.is("first of " + 4 * nodes, x.conflict(0, 3), 60 + 4 * nodes);
            Due.is("last of " + 4 * nodes, x.conflict(39, 3), 99 + 4 * nodes);
        }
    }

    /** The quarrel's world after client 2 has removed a node; its conflict 2 is of kind 0 and node 2. */
    private static LeasedTree quarrelWithout(int node) {
        LeasedTree x = Worlds.quarrel();
        x.lease(2, 0, 9, true);
        x.removeNode(2, node);
        x.commit(2);
        return x;
    }

    /** "for kind 0, the field of the node gets the refused value, if the node is alive in the trunk". */
    private static void acceptKindZero() {
        LeasedTree x = Worlds.quarrel();
        Due.is("kind 0: before", x.field(2, 1), 1);
        Due.is("kind 0: accepted", x.resolve(2, true), 4);
        Due.is("kind 0: field", x.field(2, 1), 2);
        Due.is("kind 0: other field", x.field(2, 0), 10);
        Due.is("kind 0: next in the list", x.conflict(2, 0), 1);
        Twins.refused("kind 0 of a dead node", Due.STATE, () -> quarrelWithout(2), y -> y.resolve(2, true));
        Twins.refused("kind 0 below a dead node", Due.STATE, () -> quarrelWithout(1), y -> y.resolve(2, true));
        LeasedTree z = quarrelWithout(6);
        Due.is("kind 0, another node dead", z.resolve(2, true), 4);
    }

    /** "For kind 4, the node and all nodes below it are not alive any more, if the node is alive in the trunk." */
    private static void acceptKindFour() {
        LeasedTree x = Worlds.quarrel();
        Due.is("kind 4: accepted", x.resolve(4, true), 4);
        Due.is("kind 4: not alive", x.node(6, 3), 0);
        Due.is("kind 4: field as it was", x.field(6, 2), 5);
        Due.is("kind 4: above", x.node(5, 3), 1);
        Twins.refused("kind 4 of a dead node", Due.STATE, () -> quarrelWithout(6), y -> y.resolve(4, true));
        Twins.refused("kind 4 below a dead node", Due.STATE, () -> quarrelWithout(5), y -> y.resolve(4, true));
        LeasedTree z = two();
        z.removeNode(0, 1);
        z.addNode(1, 3, 9, true);
        z.commit(1);
        z.commit(0);
        Due.is("kind 4 with nodes below", z.resolve(0, true), 0);
        Due.is("kind 4 with nodes below: size", z.size(0), 3);
        Due.is("kind 4 with nodes below: the lowest", z.node(7, 3), 0);
    }

    /** "In all other cases this cannot be done." */
    private static void otherKindsCannotBeAccepted() {
        Twins.refused("kind 3", Due.STATE, Worlds::quarrel, x -> x.resolve(0, true));
        Twins.refused("kind 2", Due.STATE, Worlds::quarrel, x -> x.resolve(1, true));
        Twins.refused("kind 1", Due.STATE, Worlds::quarrel, x -> x.resolve(3, true));
        // Not even when the node that stood in the way is gone.
        Twins.refused("kind 2, other node dead", Due.STATE, () -> quarrelWithout(7), x -> x.resolve(1, true));
        Twins.refused("kind 3, other node dead", Due.STATE, () -> quarrelWithout(7), x -> x.resolve(0, true));
    }

    /** "Removes a conflict from the list; if accept is true, what was refused is done". */
    private static void notAccepting() {
        LeasedTree x = Worlds.quarrel();
        for (int left = 4; left >= 0; left--) {
            Due.is("not accepted, left " + left, x.resolve(left, false), left);
        }
        Due.is("not accepted: field", x.field(2, 1), 1);
        Due.is("not accepted: node", x.node(6, 3), 1);
        Due.is("not accepted: size", x.size(0), 6);
        Due.is("not accepted: none left", x.conflictCount(), 0);
        LeasedTree y = quarrelWithout(2);
        Due.is("not accepted, node dead", y.resolve(2, false), 4);
    }

    /** "Throws IndexOutOfBoundsException if there is no such conflict (checked first)". */
    private static void conflictBounds() {
        Due.is("resolve of the last", Worlds.quarrel().resolve(4, false), 4);
        Due.is("resolve of the first", Worlds.quarrel().resolve(0, false), 4);
        Due.is("resolve of the 40th", Worlds.fortyConflicts().resolve(39, true), 39);
        for (int index : new int[] {5, -1, LEAST, MOST}) {
            Twins.refused("resolve of " + index, Due.INDEX, Worlds::quarrel, x -> x.resolve(index, true));
            Twins.refused("not accepting of " + index, Due.INDEX, Worlds::quarrel, x -> x.resolve(index, false));
            Twins.refused("conflict(" + index + ", 0)", Due.INDEX, Worlds::quarrel, x -> x.conflict(index, 0));
            Twins.refused("conflict(" + index + ", 6)", Due.INDEX, Worlds::quarrel, x -> x.conflict(index, 6));
        }
        Twins.refused("resolve of the 41st", Due.INDEX, Worlds::fortyConflicts, x -> x.resolve(40, false));
        Twins.refused("conflict(40, 0)", Due.INDEX, Worlds::fortyConflicts, x -> x.conflict(40, 0));
        Twins.refused("resolve without conflicts", Due.INDEX, Worlds::leased, x -> x.resolve(0, true));
        LeasedTree y = Worlds.fortyConflicts();
        y.resolve(0, false);
        Due.fails("the 40th of 39", Due.INDEX, () -> y.resolve(39, false));
    }
}
