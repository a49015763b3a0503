/** The boundaries of the changes: promises 6 to 14, sentence by sentence, and the order in which they check. */
public final class EdgeChangesTest {
    private static final int LEAST = Integer.MIN_VALUE;
    private static final int MOST = Integer.MAX_VALUE;
    /** Node numbers that the plain world does not have; the leased one has two nodes more. */
    private static final int[] NO_NODE = {7, 60, 64, -1, LEAST, MOST};
    private static final int[] NO_LEASED_NODE = {9, 60, 64, -1, LEAST, MOST};
    private static final int[] NO_LEASE_TICKS = {0, 101, -1, LEAST, MOST};

    public static void main(String[] args) {
        leaseTicks();
        leaseNodes();
        leaseOrder();
        leaseStates();
        renewTicks();
        renewMustEndLater();
        renewOrder();
        setFieldValues();
        setFieldOrder();
        setFieldStates();
        addNodeOrder();
        addNodeStates();
        removeNodeCounts();
        removeNodeOrder();
        removeNodeStates();
        commitEndsTheLease();
        abandonEndsTheLease();
        withoutALease();
        afterTheLease();
        advanceTicks();
        lastTick();
        Due.end("EdgeChangesTest");
    }

    /** Promise 6: "ticks: 1 to 100", "Returns the tick at which the lease ends". */
    private static void leaseTicks() {
        for (int ticks : new int[] {1, 2, 99, 100}) {
            LeasedTree x = Worlds.plain();
            Due.is("lease of " + ticks, x.lease(0, 1, ticks, true), ticks);
            Due.is("lease of " + ticks + ": end", x.leased(0, 1), ticks);
            LeasedTree y = Worlds.plain();
            y.advance(7);
            Due.is("lease of " + ticks + " from 7", y.lease(2, 6, ticks, false), 7 + ticks);
        }
        for (int ticks : NO_LEASE_TICKS) {
            Twins.refused("lease of " + ticks, Due.ARGUMENT, Worlds::plain, x -> x.lease(0, 1, ticks, false));
        }
    }

    /** Promise 6: "IndexOutOfBoundsException if the client or the node does not exist". */
    private static void leaseNodes() {
        for (int node = 0; node < 7; node++) {
            Due.is("lease of node " + node, Worlds.plain().lease(0, node, 5, true), 5);
        }
        for (int node : NO_NODE) {
            Twins.refused("lease of node " + node, Due.INDEX, Worlds::plain, x -> x.lease(0, node, 5, true));
        }
        LeasedTree x = Worlds.leased();
        Due.fails("lease of an added node", Due.STATE, () -> x.lease(2, 8, 5, true));
        Due.fails("lease of the node behind it", Due.INDEX, () -> x.lease(2, 9, 5, true));
    }

    /** Promise 6: "(checked first)", "(checked second)". */
    private static void leaseOrder() {
        Twins.refused("client before ticks", Due.INDEX, Worlds::leased, x -> x.lease(3, 0, 0, true));
        Twins.refused("node before ticks", Due.INDEX, Worlds::leased, x -> x.lease(2, 9, 101, true));
        Twins.refused("node before lease", Due.INDEX, Worlds::leased, x -> x.lease(0, 9, 5, true));
        Twins.refused("ticks before lease", Due.ARGUMENT, Worlds::leased, x -> x.lease(0, 0, 0, true));
        Twins.refused("ticks before other leases", Due.ARGUMENT, Worlds::leased, x -> x.lease(2, 0, 101, true));
        Twins.refused("ticks before a dead node", Due.ARGUMENT, Worlds::leased, x -> x.lease(2, 8, 101, true));
    }

    /** Promise 6: "if the client has a lease, the node is not alive, or ... because of other leases". */
    private static void leaseStates() {
        Twins.refused("has a lease", Due.STATE, Worlds::leased, x -> x.lease(0, 1, 50, false));
        Twins.refused("not alive", Due.STATE, Worlds::leased, x -> x.lease(2, 7, 50, false));
        Twins.refused("exclusive above shared", Due.STATE, Worlds::leased, x -> x.lease(2, 0, 50, true));
        Twins.refused("shared below exclusive", Due.STATE, Worlds::leased, x -> x.lease(2, 6, 50, false));
        Due.is("shared below shared", Worlds.leased().lease(2, 4, 50, false), 50);
        Twins.Recipe gone = () -> {
            LeasedTree x = Worlds.plain();
            x.lease(0, 0, 50, false);
            x.removeNode(0, 3);
            x.commit(0);
            return x;
        };
        Twins.refused("dead node", Due.STATE, gone, x -> x.lease(0, 3, 5, false));
        Twins.refused("node below a dead one", Due.STATE, gone, x -> x.lease(0, 4, 5, true));
        Due.is("node above a dead one", gone.make().lease(0, 1, 5, true), 5);
    }

    /** Promise 7: "ticks: 1 to 100", "Lets a lease end at the present tick + ticks". */
    private static void renewTicks() {
        Due.is("renew of 100", Worlds.leased().renew(0, 100), 100);
        LeasedTree x = Worlds.plain();
        x.lease(0, 1, 2, false);
        x.advance(1);
        Due.is("renew of 2 at 1", x.renew(0, 2), 3);
        Due.is("renew of 2 at 1: end", x.leased(0, 1), 3);
        Due.is("renew of 2 at 1: nextEnd", x.nextEnd(), 3);
        Due.is("renew of 2 at 1: node", x.leased(0, 0), 1);
        for (int ticks : NO_LEASE_TICKS) {
            Twins.refused("renew of " + ticks, Due.ARGUMENT, Worlds::leased, y -> y.renew(0, ticks));
        }
    }

    /** Promise 7: "IllegalStateException if the client has no lease, or it does not end later by this". */
    private static void renewMustEndLater() {
        Due.is("one tick later", Worlds.leased().renew(0, 6), 6);
        Twins.refused("the same tick", Due.STATE, Worlds::leased, x -> x.renew(0, 5));
        Twins.refused("one tick earlier", Due.STATE, Worlds::leased, x -> x.renew(0, 4));
        Twins.refused("at the next tick", Due.STATE, Worlds::leased, x -> x.renew(0, 1));
        Twins.refused("no lease", Due.STATE, Worlds::leased, x -> x.renew(2, 50));
        Twins.Recipe most = () -> {
            LeasedTree x = Worlds.plain();
            x.lease(0, 1, 100, false);
            return x;
        };
        Twins.refused("100 of 100", Due.STATE, most, x -> x.renew(0, 100));
        LeasedTree x = most.make();
        x.advance(1);
        Due.is("100 of 100 a tick later", x.renew(0, 100), 101);
    }

    private static void renewOrder() {
        Twins.refused("client before ticks", Due.INDEX, Worlds::leased, x -> x.renew(3, 0));
        Twins.refused("client before lease", Due.INDEX, Worlds::leased, x -> x.renew(-1, 50));
        Twins.refused("ticks before lease", Due.ARGUMENT, Worlds::leased, x -> x.renew(2, 101));
    }

    /** Promise 8: "value: -1000000 to 1000000", "Returns the previous value in the copy". */
    private static void setFieldValues() {
        LeasedTree x = Worlds.leased();
        int previous = 11;
        for (int value : new int[] {1000000, -1000000, 999999, -999999, 0, -1, 1}) {
            Due.is("setField to " + value, x.setField(0, 2, 0, value), previous);
            Due.is("copyField of " + value, x.copyField(0, 2, 0), value);
            previous = value;
        }
        for (int value : new int[] {1000001, -1000001, LEAST, MOST}) {
            Twins.refused("setField to " + value, Due.ARGUMENT, Worlds::leased, y -> y.setField(0, 2, 0, value));
        }
    }

    /** Promise 8: "if the client, the node or the field does not exist (checked first)", value second. */
    private static void setFieldOrder() {
        for (int node : NO_LEASED_NODE) {
            Twins.refused("setField of node " + node, Due.INDEX, Worlds::leased, x -> x.setField(0, node, 0, 1));
            Twins.refused("node " + node + " before value", Due.INDEX, Worlds::leased,
                    x -> x.setField(0, node, 0, 1000001));
        }
        for (int field : new int[] {3, 6, -1, LEAST, MOST}) {
            Twins.refused("setField of field " + field, Due.INDEX, Worlds::leased, x -> x.setField(0, 2, field, 1));
            Twins.refused("field " + field + " before value", Due.INDEX, Worlds::leased,
                    x -> x.setField(0, 2, field, -1000001));
            Twins.refused("field " + field + " before lease", Due.INDEX, Worlds::leased,
                    x -> x.setField(2, 2, field, 1));
        }
        Due.is("the last field", Worlds.leased().setField(0, 2, 2, 1), 0);
        Twins.refused("client before value", Due.INDEX, Worlds::leased, x -> x.setField(3, 2, 0, 1000001));
        Twins.refused("value before lease", Due.ARGUMENT, Worlds::leased, x -> x.setField(2, 2, 0, 1000001));
        Twins.refused("value before copy", Due.ARGUMENT, Worlds::leased, x -> x.setField(0, 4, 0, -1000001));
        Twins.refused("value before record", Due.ARGUMENT, Worlds::leased, x -> x.setField(0, 1, 0, -1000001));
    }

    /** Promise 8: "if the client has no lease, the node is not alive in its copy, or it is not a record". */
    private static void setFieldStates() {
        Twins.refused("setField: no lease", Due.STATE, Worlds::leased, x -> x.setField(2, 2, 0, 1));
        Twins.refused("setField: removed", Due.STATE, Worlds::leased, x -> x.setField(0, 4, 0, 1));
        Twins.refused("setField: outside", Due.STATE, Worlds::leased, x -> x.setField(0, 6, 0, 1));
        Twins.refused("setField: in another copy", Due.STATE, Worlds::leased, x -> x.setField(1, 8, 0, 1));
        Twins.refused("setField: directory", Due.STATE, Worlds::leased, x -> x.setField(0, 1, 0, 1));
        Due.is("setField: record", Worlds.leased().setField(1, 6, 0, 1), 0);
        Due.is("setField: leased record", leasedRecord().setField(2, 2, 1, 1), 20);
    }

    private static LeasedTree leasedRecord() {
        LeasedTree x = Worlds.plain();
        x.lease(2, 2, 9, true);
        return x;
    }

    /** Promise 9: "(checked first)", "(checked second)". */
    private static void addNodeOrder() {
        for (int parent : NO_LEASED_NODE) {
            Twins.refused("addNode in " + parent, Due.INDEX, Worlds::leased, x -> x.addNode(0, parent, 9, true));
            Twins.refused("parent " + parent + " before label", Due.INDEX, Worlds::leased,
                    x -> x.addNode(0, parent, -1, true));
            Twins.refused("parent " + parent + " before lease", Due.INDEX, Worlds::leased,
                    x -> x.addNode(2, parent, 9, true));
        }
        Twins.refused("client before label", Due.INDEX, Worlds::leased, x -> x.addNode(3, 0, 1000, true));
        Twins.refused("label before lease", Due.ARGUMENT, Worlds::leased, x -> x.addNode(2, 1, 1000, true));
        Twins.refused("label before parent's copy", Due.ARGUMENT, Worlds::leased, x -> x.addNode(0, 5, -1, true));
        Twins.refused("label before record", Due.ARGUMENT, Worlds::leased, x -> x.addNode(0, 2, -1, true));
        Twins.refused("label before 60 nodes", Due.ARGUMENT, Worlds::full, x -> x.addNode(0, 0, 1000, true));
        Twins.refused("parent before 60 nodes", Due.INDEX, Worlds::full, x -> x.addNode(0, 60, 5, true));
    }

    /** Promise 9: "if the client has no lease, the parent is not a directory that is alive in its copy, ...". */
    private static void addNodeStates() {
        Twins.refused("addNode: no lease", Due.STATE, Worlds::leased, x -> x.addNode(2, 1, 10, true));
        Twins.refused("addNode: removed parent", Due.STATE, Worlds::leased, x -> x.addNode(0, 3, 10, true));
        Twins.refused("addNode: parent outside", Due.STATE, Worlds::leased, x -> x.addNode(0, 5, 10, true));
        Twins.refused("addNode: parent above", Due.STATE, Worlds::leased, x -> x.addNode(0, 0, 10, true));
        Twins.refused("addNode: parent in another copy", Due.STATE, Worlds::leased, x -> x.addNode(1, 7, 10, true));
        Twins.refused("addNode: record", Due.STATE, Worlds::leased, x -> x.addNode(0, 2, 10, true));
        Twins.refused("addNode: leased record", Due.STATE, EdgeChangesTest::leasedRecord,
                x -> x.addNode(2, 2, 10, true));
        Twins.refused("addNode: label taken", Due.STATE, Worlds::leased, x -> x.addNode(0, 1, 2, false));
        Twins.refused("addNode: 60 nodes", Due.STATE, Worlds::full, x -> x.addNode(0, 0, 999, false));
        LeasedTree x = Worlds.leased();
        Due.is("addNode: leased directory", x.addNode(0, 1, 10, true), 9);
        Due.is("addNode: added directory", x.addNode(0, 7, 10, false), 10);
        for (int f = 0; f < 3; f++) {
            Due.is("addNode: all its fields are 0: " + f, x.copyField(0, 9, f), 0);
        }
        Due.is("addNode: record or not", x.node(9, 2) - x.node(10, 2), 1);
    }

    /** Promise 10: "Removes a node and all nodes below it", "Returns the number of nodes that were removed". */
    private static void removeNodeCounts() {
        LeasedTree x = Worlds.plain();
        x.lease(0, 0, 9, false);
        Due.is("one node", x.removeNode(0, 4), 1);
        Due.is("without what was removed before", x.removeNode(0, 1), 3);
        Due.is("with its child", x.removeNode(0, 5), 2);
        Due.is("trunk", x.size(0), 7);
        LeasedTree y = Worlds.full();
        Due.is("added nodes with their parents", y.removeNode(0, 1), 4);
        LeasedTree z = Worlds.plain();
        z.lease(0, 1, 9, false);
        for (int n = 7; n < 60; n++) {
            z.addNode(0, n == 7 ? 3 : n - 1, 9, false);
        }
        Due.is("a chain of 55 nodes", z.removeNode(0, 3), 55);
        Due.is("a chain of 55 nodes: the last", z.isInCopy(0, 59), false);
        Due.is("a chain of 55 nodes: beside", z.isInCopy(0, 2), true);
        Due.is("a chain of 55 nodes: conflicts", z.commit(0), 0);
        Due.is("a chain of 55 nodes: trunk", z.size(0), 5);
    }

    private static void removeNodeOrder() {
        for (int node : NO_LEASED_NODE) {
            Twins.refused("removeNode of " + node, Due.INDEX, Worlds::leased, x -> x.removeNode(0, node));
            Twins.refused("node " + node + " before lease", Due.INDEX, Worlds::leased, x -> x.removeNode(2, node));
        }
        Twins.refused("client before lease", Due.INDEX, Worlds::leased, x -> x.removeNode(3, 1));
    }

    /** Promise 10: "if the client has no lease, the node is not alive in its copy, or it is the leased node". */
    private static void removeNodeStates() {
        Twins.refused("removeNode: no lease", Due.STATE, Worlds::leased, x -> x.removeNode(2, 2));
        Twins.refused("removeNode: removed", Due.STATE, Worlds::leased, x -> x.removeNode(0, 3));
        Twins.refused("removeNode: removed with its parent", Due.STATE, Worlds::leased, x -> x.removeNode(0, 4));
        Twins.refused("removeNode: outside", Due.STATE, Worlds::leased, x -> x.removeNode(0, 6));
        Twins.refused("removeNode: above", Due.STATE, Worlds::leased, x -> x.removeNode(0, 0));
        Twins.refused("removeNode: in another copy", Due.STATE, Worlds::leased, x -> x.removeNode(1, 7));
        Twins.refused("removeNode: leased directory", Due.STATE, Worlds::leased, x -> x.removeNode(0, 1));
        Twins.refused("removeNode: leased record", Due.STATE, EdgeChangesTest::leasedRecord, x -> x.removeNode(2, 2));
        Due.is("removeNode: below the leased node", Worlds.leased().removeNode(0, 2), 1);
        Due.is("removeNode: another client's leased node", twoLeases().removeNode(0, 1), 4);
    }

    private static LeasedTree twoLeases() {
        LeasedTree x = Worlds.plain();
        x.lease(0, 0, 9, false);
        x.lease(1, 1, 9, false);
        return x;
    }

    /** Promise 11: "Merges the copy of a client into the trunk (section 5); the lease ends." */
    private static void commitEndsTheLease() {
        LeasedTree x = Worlds.leased();
        Due.is("commit", x.commit(0), 0);
        Due.is("commit: lease", x.leased(0, 0), -1);
        Due.is("commit: other lease", x.leased(1, 0), 5);
        Due.is("commit: field", x.field(2, 0), 11);
        Due.is("commit: size", x.size(0), 7);
        Due.is("commit: blockers", x.blockers(2, 0, true), 2);
        Due.fails("commit: twice", Due.STATE, () -> x.commit(0));
        Due.is("commit of nothing changed", x.commit(1), 0);
        Due.is("commit of nothing changed: size", x.size(0), 7);
    }

    /** Promise 12: "Ends the lease of a client without merging", "the number of fields that were changed". */
    private static void abandonEndsTheLease() {
        LeasedTree x = Worlds.leased();
        Due.is("abandon", x.abandon(0), 1);
        Due.is("abandon: lease", x.leased(0, 0), -1);
        Due.is("abandon: field", x.field(2, 0), 10);
        Due.is("abandon: size", x.size(0), 7);
        Due.is("abandon: nodeCount", x.nodeCount(), 9);
        Due.is("abandon: nextEnd", x.nextEnd(), 6);
        Due.is("abandon: nothing is folded", x.advance(5), 0);
        Due.is("abandon of nothing changed", x.abandon(1), 0);
        Due.fails("abandon: twice", Due.STATE, () -> x.abandon(1));
    }

    /** Promises 11 and 12: "IllegalStateException if the client has no lease", after the client is checked. */
    private static void withoutALease() {
        Twins.refused("commit without a lease", Due.STATE, Worlds::leased, x -> x.commit(2));
        Twins.refused("abandon without a lease", Due.STATE, Worlds::leased, x -> x.abandon(2));
        Twins.refused("commit after the lease was folded", Due.STATE, Worlds::quarrel, x -> x.commit(1));
        Twins.refused("abandon after the lease was folded", Due.STATE, Worlds::quarrel, x -> x.abandon(1));
        for (int client : new int[] {3, -1, LEAST, MOST}) {
            Twins.refused("commit of client " + client, Due.INDEX, Worlds::leased, x -> x.commit(client));
            Twins.refused("abandon of client " + client, Due.INDEX, Worlds::leased, x -> x.abandon(client));
        }
    }

    /** "if the client has no lease": what an ended lease has left behind does not count. */
    private static void afterTheLease() {
        Twins.Recipe[] ended = {() -> ended(LeasedTree::commit), () -> ended(LeasedTree::abandon),
            () -> ended((x, client) -> x.advance(5))};
        for (Twins.Recipe recipe : ended) {
            Twins.refused("ended: renew", Due.STATE, recipe, x -> x.renew(0, 50));
            Twins.refused("ended: setField", Due.STATE, recipe, x -> x.setField(0, 2, 0, 5));
            Twins.refused("ended: addNode", Due.STATE, recipe, x -> x.addNode(0, 1, 99, true));
            Twins.refused("ended: removeNode", Due.STATE, recipe, x -> x.removeNode(0, 2));
            Twins.refused("ended: commit", Due.STATE, recipe, x -> x.commit(0));
            Twins.refused("ended: abandon", Due.STATE, recipe, x -> x.abandon(0));
            Twins.refused("ended: isInCopy", Due.STATE, recipe, x -> x.isInCopy(0, 2));
            Twins.refused("ended: copyField", Due.STATE, recipe, x -> x.copyField(0, 2, 0));
            Twins.refused("ended: changedCount", Due.STATE, recipe, x -> x.changedCount(0));
            Twins.refused("ended: preview", Due.STATE, recipe, x -> x.preview(0));
            Twins.refused("ended: wouldBe", Due.STATE, recipe, x -> x.wouldBe(0, 2, 0));
            Twins.refused("ended: isFree", Due.STATE, recipe, x -> x.isFree(0, 1));
            Twins.refused("ended: isFree, turned round", Due.STATE, recipe, x -> x.isFree(1, 0));
            Due.is("ended: blockers", recipe.make().blockers(2, 1, true), 0);
            Due.is("ended: nextEnd", recipe.make().nextEnd(), 6);
        }
    }

    private interface End {
        int of(LeasedTree x, int client);
    }

    private static LeasedTree ended(End end) {
        LeasedTree x = Worlds.leased();
        end.of(x, 0);
        return x;
    }

    /** Promise 14: "ticks: 1 to 200", "Returns the number of leases that were folded". */
    private static void advanceTicks() {
        LeasedTree x = Worlds.leased();
        Due.is("advance(1)", x.advance(1), 0);
        Due.is("advance(1): tick", x.tick(), 1);
        Due.is("advance(200)", x.advance(200), 2);
        Due.is("advance(200): tick", x.tick(), 201);
        Due.is("advance(199)", x.advance(199), 0);
        for (int ticks : new int[] {0, 201, -1, LEAST, MOST}) {
            Twins.refused("advance(" + ticks + ")", Due.ARGUMENT, Worlds::leased, y -> y.advance(ticks));
        }
    }

    private static LeasedTree at(int tick) {
        LeasedTree x = Worlds.plain();
        x.lease(0, 1, 100, false);
        for (int left = tick; left > 0; left -= 200) {
            x.advance(Math.min(200, left));
        }
        return x;
    }

    /** Promise 14: "or the tick would be greater than 9999". */
    private static void lastTick() {
        Due.is("9799 + 200", at(9799).advance(200), 0);
        Due.is("9998 + 1", at(9998).advance(1), 0);
        Twins.refused("9800 + 200", Due.ARGUMENT, () -> at(9800), x -> x.advance(200));
        Twins.refused("9998 + 2", Due.ARGUMENT, () -> at(9998), x -> x.advance(2));
        Twins.refused("9999 + 1", Due.ARGUMENT, () -> at(9999), x -> x.advance(1));
        Twins.refused("9999 + most", Due.ARGUMENT, () -> at(9999), x -> x.advance(MOST));
        Twins.refused("9999 + 0", Due.ARGUMENT, () -> at(9999), x -> x.advance(0));
        LeasedTree x = at(9800);
        Due.is("lease that ends before the last tick", x.lease(1, 5, 99, false), 9899);
        x.advance(99);
        Due.is("lease that ends at the last tick", x.lease(1, 5, 100, false), 9999);
        Due.is("another lease that ends at the last tick", x.lease(0, 1, 100, false), 9999);
        Due.is("last tick's leases", x.advance(100), 2);
        Due.is("last tick", x.tick(), 9999);
        Due.is("lease at the last tick", x.lease(1, 5, 1, false), 10000);
        Due.fails("renew to the same at the last tick", Due.STATE, () -> x.renew(1, 1));
        Due.is("renew at the last tick", x.renew(1, 100), 10099);
        Due.is("commit at the last tick", x.commit(1), 0);
    }
}
