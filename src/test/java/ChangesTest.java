/** Promises 6 to 14 but for what merging does: what changes answer, throw, and in which order they check. */
public final class ChangesTest {
    /** Node 1 and 4 are directories of the root, 2 and 3 records in 1, 5 a directory in 1, 6 a record in 5. */
    private static final String SETUP = "field sum;field max;client;client;client;"
            + "dir 0 1;record 1 2;record 1 3;dir 0 4;dir 1 5;record 5 6;value 2 0 10;value 6 1 -7";

    public static void main(String[] args) {
        leaseChecks();
        leaseTouching();
        leaseCopies();
        renew();
        setFieldChecks();
        setField();
        addNodeChecks();
        addNode();
        mostNodes();
        removeNode();
        commit();
        abandon();
        advance();
        advanceFolds();
        mostClients();
        failingChangesChangeNothing();
        Due.end("ChangesTest");
    }

    private static void leaseChecks() {
        LeasedTree x = Due.loaded(SETUP);
        Due.fails("lease: client -1", Due.INDEX, () -> x.lease(-1, 0, 5, true));
        Due.fails("lease: client 3", Due.INDEX, () -> x.lease(3, 0, 5, true));
        Due.fails("lease: node -1", Due.INDEX, () -> x.lease(0, -1, 5, true));
        Due.fails("lease: node 7", Due.INDEX, () -> x.lease(0, 7, 0, true));
        Due.fails("lease: 0 ticks", Due.ARGUMENT, () -> x.lease(0, 0, 0, true));
        Due.fails("lease: 101 ticks", Due.ARGUMENT, () -> x.lease(0, 0, 101, true));
        Due.is("lease: 1 tick", x.lease(0, 1, 1, false), 1);
        Due.is("lease: 100 ticks", x.lease(1, 2, 100, false), 100);
        Due.fails("lease: twice", Due.STATE, () -> x.lease(0, 4, 5, false));
        Due.fails("lease: twice, ticks first", Due.ARGUMENT, () -> x.lease(0, 4, 0, false));
        Due.is("lease: at a later tick", x.advance(7), 1);
        Due.is("lease: end", x.lease(0, 1, 5, false), 12);
        x.removeNode(0, 3);
        x.addNode(0, 1, 77, true);
        x.commit(0);
        Due.fails("lease: dead node", Due.STATE, () -> x.lease(0, 3, 5, false));
        x.lease(0, 0, 5, false);
        x.addNode(0, 0, 77, true);
        Due.fails("lease: node that is only in a copy", Due.STATE, () -> x.lease(2, 8, 5, false));
    }

    private static void leaseTouching() {
        LeasedTree x = Due.loaded(SETUP);
        x.lease(0, 1, 50, false);
        Due.fails("exclusive above shared", Due.STATE, () -> x.lease(1, 0, 5, true));
        Due.fails("exclusive on shared", Due.STATE, () -> x.lease(1, 1, 5, true));
        Due.fails("exclusive far below shared", Due.STATE, () -> x.lease(1, 6, 5, true));
        Due.is("exclusive beside shared", x.lease(1, 4, 5, true), 5);
        Due.fails("shared above exclusive", Due.STATE, () -> x.lease(2, 0, 5, false));
        Due.fails("shared on exclusive", Due.STATE, () -> x.lease(2, 4, 5, false));
        Due.is("shared below shared", x.lease(2, 6, 5, false), 5);
        LeasedTree y = Due.loaded(SETUP);
        y.lease(0, 5, 50, true);
        Due.fails("shared below exclusive", Due.STATE, () -> y.lease(1, 6, 5, false));
        Due.fails("exclusive above exclusive", Due.STATE, () -> y.lease(1, 1, 5, true));
        Due.is("exclusive beside exclusive", y.lease(1, 2, 5, true), 5);
        y.abandon(0);
        Due.is("after the other has ended", y.lease(2, 6, 5, false), 5);
    }

    private static void leaseCopies() {
        LeasedTree x = Due.loaded(SETUP);
        x.lease(0, 1, 50, false);
        int[] in = {0, 1, 1, 1, 0, 1, 1};
        for (int n = 0; n < in.length; n++) {
            Due.is("copy of 1 has " + n, x.isInCopy(0, n), in[n] == 1);
        }
        Due.is("copied field", x.copyField(0, 2, 0), 10);
        Due.is("copied field far below", x.copyField(0, 6, 1), -7);
        Due.fails("field outside of the copy", Due.STATE, () -> x.copyField(0, 0, 0));
        x.setField(0, 2, 0, 11);
        x.addNode(0, 1, 9, true);
        x.removeNode(0, 5);
        x.abandon(0);
        x.lease(0, 1, 50, false);
        Due.is("second copy: field", x.copyField(0, 2, 0), 10);
        Due.is("second copy: node 5", x.isInCopy(0, 5), true);
        Due.is("second copy: node 7", x.isInCopy(0, 7), false);
        Due.is("second copy: changed", x.changedCount(0), 0);
        Due.is("second copy: conflicts", x.commit(0), 0);
        Due.is("second copy: nothing joined", x.node(7, 3), 0);
        x.lease(0, 1, 50, false);
        x.addNode(0, 1, 9, true);
        x.commit(0);
        x.lease(0, 1, 50, false);
        Due.is("third copy: what was added before is in the base", x.setField(0, 8, 0, 3), 0);
        Due.is("third copy: changed", x.changedCount(0), 1);
        Due.is("third copy: conflicts", x.commit(0), 0);
        Due.is("third copy: field", x.field(8, 0), 3);
    }

    private static void renew() {
        LeasedTree x = Due.loaded(SETUP);
        Due.fails("renew: client", Due.INDEX, () -> x.renew(3, 0));
        Due.fails("renew: client -1", Due.INDEX, () -> x.renew(-1, 5));
        Due.fails("renew: 0 ticks", Due.ARGUMENT, () -> x.renew(0, 0));
        Due.fails("renew: 101 ticks", Due.ARGUMENT, () -> x.renew(0, 101));
        Due.fails("renew: no lease", Due.STATE, () -> x.renew(0, 5));
        x.lease(0, 0, 5, false);
        x.advance(2);
        Due.fails("renew: earlier", Due.STATE, () -> x.renew(0, 2));
        Due.fails("renew: the same", Due.STATE, () -> x.renew(0, 3));
        Due.is("renew: later", x.renew(0, 4), 6);
        Due.is("renew: end", x.leased(0, 1), 6);
        Due.is("renew: 100", x.renew(0, 100), 102);
        Due.is("renew: not folded", x.advance(99), 0);
        Due.is("renew: folded", x.advance(1), 1);
    }

    private static void setFieldChecks() {
        LeasedTree x = Due.loaded(SETUP);
        Due.fails("setField: client", Due.INDEX, () -> x.setField(3, 2, 0, 5));
        Due.fails("setField: node", Due.INDEX, () -> x.setField(0, 7, 0, 5));
        Due.fails("setField: node -1", Due.INDEX, () -> x.setField(0, -1, 0, 5));
        Due.fails("setField: field", Due.INDEX, () -> x.setField(0, 2, 2, 2000000));
        Due.fails("setField: field -1", Due.INDEX, () -> x.setField(0, 2, -1, 5));
        Due.fails("setField: too great", Due.ARGUMENT, () -> x.setField(0, 2, 0, 1000001));
        Due.fails("setField: too small", Due.ARGUMENT, () -> x.setField(0, 2, 0, -1000001));
        Due.fails("setField: no lease", Due.STATE, () -> x.setField(0, 2, 0, 5));
        x.lease(0, 1, 5, false);
        Due.fails("setField: directory", Due.STATE, () -> x.setField(0, 1, 0, 5));
        Due.fails("setField: not in the copy", Due.STATE, () -> x.setField(0, 4, 0, 5));
        x.removeNode(0, 2);
        Due.fails("setField: removed", Due.STATE, () -> x.setField(0, 2, 0, 5));
    }

    private static void setField() {
        LeasedTree x = Due.loaded(SETUP);
        x.lease(0, 1, 5, false);
        x.lease(1, 1, 5, false);
        Due.is("setField: greatest", x.setField(0, 2, 0, 1000000), 10);
        Due.is("setField: least", x.setField(0, 2, 0, -1000000), 1000000);
        Due.is("setField: in the copy", x.copyField(0, 2, 0), -1000000);
        Due.is("setField: not in the trunk", x.field(2, 0), 10);
        Due.is("setField: not in another copy", x.copyField(1, 2, 0), 10);
        Due.is("setField: changed", x.changedCount(0), 1);
        x.setField(0, 2, 0, 10);
        Due.is("setField: changed back", x.changedCount(0), 0);
    }

    private static void addNodeChecks() {
        LeasedTree x = Due.loaded(SETUP);
        Due.fails("addNode: client", Due.INDEX, () -> x.addNode(3, 1, 9, true));
        Due.fails("addNode: parent", Due.INDEX, () -> x.addNode(0, 7, -1, true));
        Due.fails("addNode: parent -1", Due.INDEX, () -> x.addNode(0, -1, 9, true));
        Due.fails("addNode: label -1", Due.ARGUMENT, () -> x.addNode(0, 1, -1, true));
        Due.fails("addNode: label 1000", Due.ARGUMENT, () -> x.addNode(0, 1, 1000, true));
        Due.fails("addNode: no lease", Due.STATE, () -> x.addNode(0, 1, 9, true));
        x.lease(0, 1, 5, false);
        Due.fails("addNode: record as parent", Due.STATE, () -> x.addNode(0, 2, 9, true));
        Due.fails("addNode: parent not in the copy", Due.STATE, () -> x.addNode(0, 4, 9, true));
        Due.fails("addNode: label of a record", Due.STATE, () -> x.addNode(0, 1, 3, true));
        Due.fails("addNode: label of a directory", Due.STATE, () -> x.addNode(0, 1, 5, false));
        x.removeNode(0, 5);
        Due.fails("addNode: removed parent", Due.STATE, () -> x.addNode(0, 5, 9, true));
        Due.is("addNode: label of a removed node", x.addNode(0, 1, 5, false), 7);
        Due.fails("addNode: label of an added node", Due.STATE, () -> x.addNode(0, 1, 5, true));
    }

    private static void addNode() {
        LeasedTree x = Due.loaded(SETUP);
        x.lease(0, 1, 5, false);
        x.lease(1, 1, 5, false);
        Due.is("addNode: label 0", x.addNode(0, 1, 0, false), 7);
        Due.is("addNode: label 999", x.addNode(1, 1, 999, true), 8);
        Due.is("addNode: below an added one", x.addNode(0, 7, 999, true), 9);
        Due.fails("addNode: below one of another copy", Due.STATE, () -> x.addNode(1, 7, 5, true));
        Due.is("addNode: nodeCount", x.nodeCount(), 10);
        Due.is("addNode: parent", x.node(9, 0), 7);
        Due.is("addNode: label", x.node(9, 1), 999);
        Due.is("addNode: record", x.node(9, 2), 1);
        Due.is("addNode: directory", x.node(7, 2), 0);
        Due.is("addNode: not in the trunk", x.node(9, 3), 0);
        Due.is("addNode: above", x.node(9, 4), 3);
        Due.is("addNode: fields", x.copyField(0, 9, 0), 0);
        Due.is("addNode: in the copy", x.isInCopy(0, 9), true);
        Due.is("addNode: not in another copy", x.isInCopy(1, 9), false);
        Due.is("addNode: field of the trunk", x.field(9, 1), 0);
        x.setField(0, 9, 1, 5);
        Due.is("addNode: field of the trunk still", x.field(9, 1), 0);
        Due.is("addNode: no changed field", x.changedCount(0), 0);
        x.undo();
        x.undo();
        Due.is("addNode: number is free again", x.addNode(1, 1, 998, true), 9);
        Due.is("addNode: fields are 0 again", x.copyField(1, 9, 1), 0);
    }

    private static void mostNodes() {
        LeasedTree x = Due.loaded("client;client;field sum");
        x.lease(0, 0, 100, false);
        x.lease(1, 0, 100, false);
        int parent = 0;
        for (int n = 1; n < 60; n++) {
            Due.is("node " + n, x.addNode(0, parent, n, false), n);
            parent = n;
        }
        Due.fails("node 60", Due.STATE, () -> x.addNode(1, 0, 500, true));
        Due.fails("node 60: label first", Due.ARGUMENT, () -> x.addNode(1, 0, 1000, true));
        Due.is("60 nodes", x.nodeCount(), 60);
        Due.is("levels", x.node(59, 4), 59);
        Due.is("joined", x.commit(0), 0);
        Due.is("walk", x.walk(0, 59), 59);
        Due.is("walk of the middle", x.walk(30, 29), 59);
        Due.is("size", x.size(0), 60);
        Due.is("childCount", x.childCount(58), 1);
        Due.is("childCount of the last", x.childCount(59), 0);
        Due.is("child", x.child(58, 0), 59);
        Due.is("find", x.find(58, 59), 59);
        Due.fails("find nothing", Due.ELEMENT, () -> x.find(59, 59));
        Due.is("total", x.total(0, 0), 0);
        Due.fails("greatest", Due.ELEMENT, () -> x.greatest(0, 0));
        Due.is("blockers", x.blockers(0, 59, true), 2);
        x.lease(0, 1, 5, false);
        Due.is("removed", x.removeNode(0, 2), 58);
        x.commit(0);
        Due.is("size afterwards", x.size(0), 2);
        Due.fails("dead nodes keep their numbers", Due.STATE, () -> x.addNode(1, 0, 500, true));
    }

    private static void removeNode() {
        LeasedTree x = Due.loaded(SETUP);
        Due.fails("removeNode: client", Due.INDEX, () -> x.removeNode(3, 2));
        Due.fails("removeNode: node", Due.INDEX, () -> x.removeNode(0, 7));
        Due.fails("removeNode: node -1", Due.INDEX, () -> x.removeNode(0, -1));
        Due.fails("removeNode: no lease", Due.STATE, () -> x.removeNode(0, 2));
        x.lease(0, 1, 5, false);
        Due.fails("removeNode: leased node", Due.STATE, () -> x.removeNode(0, 1));
        Due.fails("removeNode: not in the copy", Due.STATE, () -> x.removeNode(0, 4));
        x.addNode(0, 5, 9, true);
        Due.is("removeNode: with nodes below", x.removeNode(0, 5), 3);
        Due.is("removeNode: node below", x.isInCopy(0, 6), false);
        Due.is("removeNode: added node below", x.isInCopy(0, 7), false);
        Due.is("removeNode: not in the trunk", x.size(5), 2);
        Due.fails("removeNode: twice", Due.STATE, () -> x.removeNode(0, 5));
        Due.fails("removeNode: removed with its parent", Due.STATE, () -> x.removeNode(0, 6));
        Due.is("removeNode: record", x.removeNode(0, 3), 1);
    }

    private static void commit() {
        LeasedTree x = Due.loaded(SETUP);
        Due.fails("commit: client", Due.INDEX, () -> x.commit(3));
        Due.fails("commit: client -1", Due.INDEX, () -> x.commit(-1));
        Due.fails("commit: no lease", Due.STATE, () -> x.commit(0));
        x.lease(0, 1, 5, false);
        x.setField(0, 2, 0, 15);
        Due.is("commit", x.commit(0), 0);
        Due.is("commit: field", x.field(2, 0), 15);
        Due.is("commit: lease", x.leased(0, 0), -1);
        Due.fails("commit: twice", Due.STATE, () -> x.commit(0));
        // What the ended lease has left behind must not count.
        Due.fails("setField after the lease", Due.STATE, () -> x.setField(0, 2, 0, 5));
        Due.fails("addNode after the lease", Due.STATE, () -> x.addNode(0, 1, 99, true));
        Due.fails("removeNode after the lease", Due.STATE, () -> x.removeNode(0, 2));
        Due.fails("copyField after the lease", Due.STATE, () -> x.copyField(0, 2, 0));
        Due.fails("isInCopy after the lease", Due.STATE, () -> x.isInCopy(0, 2));
        Due.fails("changedCount after the lease", Due.STATE, () -> x.changedCount(0));
        Due.fails("preview after the lease", Due.STATE, () -> x.preview(0));
        Due.fails("wouldBe after the lease", Due.STATE, () -> x.wouldBe(0, 2, 0));
        Due.fails("renew after the lease", Due.STATE, () -> x.renew(0, 50));
        Due.fails("abandon after the lease", Due.STATE, () -> x.abandon(0));
        Due.is("blockers after the lease", x.blockers(1, 1, true), 0);
        Due.fails("nextEnd after the lease", Due.ELEMENT, x::nextEnd);
    }

    private static void abandon() {
        LeasedTree x = Due.loaded(SETUP);
        Due.fails("abandon: client", Due.INDEX, () -> x.abandon(3));
        Due.fails("abandon: no lease", Due.STATE, () -> x.abandon(0));
        x.lease(0, 1, 5, false);
        x.setField(0, 2, 0, 15);
        x.setField(0, 2, 1, 15);
        x.setField(0, 3, 1, 15);
        x.setField(0, 6, 1, 15);
        x.removeNode(0, 5);
        x.setField(0, x.addNode(0, 1, 9, true), 1, 15);
        Due.is("abandon", x.abandon(0), 3);
        Due.is("abandon: field", x.field(2, 0), 10);
        Due.is("abandon: removed", x.node(5, 3), 1);
        Due.is("abandon: added", x.node(7, 3), 0);
        Due.is("abandon: nodeCount", x.nodeCount(), 8);
        Due.is("abandon: lease", x.leased(0, 0), -1);
        Due.fails("abandon: twice", Due.STATE, () -> x.abandon(0));
    }

    private static void advance() {
        LeasedTree x = Due.loaded(SETUP);
        Due.fails("advance(0)", Due.ARGUMENT, () -> x.advance(0));
        Due.fails("advance(-1)", Due.ARGUMENT, () -> x.advance(-1));
        Due.fails("advance(201)", Due.ARGUMENT, () -> x.advance(201));
        Due.fails("advance(most)", Due.ARGUMENT, () -> x.advance(Integer.MAX_VALUE));
        for (int i = 0; i < 49; i++) {
            x.advance(200);
        }
        Due.is("advance: 9800", x.tick(), 9800);
        Due.fails("advance: to 10000", Due.ARGUMENT, () -> x.advance(200));
        Due.is("advance: to 9999", x.advance(199), 0);
        Due.is("advance: 9999", x.tick(), 9999);
        Due.fails("advance: beyond", Due.ARGUMENT, () -> x.advance(1));
        Due.is("lease that never ends", x.lease(0, 0, 100, false), 10099);
        Due.is("nextEnd beyond", x.nextEnd(), 10099);
    }

    private static void advanceFolds() {
        LeasedTree x = Due.loaded("field last;field first;client;client;client;record 0 1;value 1 0 5");
        x.lease(2, 1, 4, false);
        x.lease(1, 1, 4, false);
        x.lease(0, 1, 5, false);
        x.setField(2, 1, 0, 32);
        x.setField(1, 1, 0, 31);
        x.setField(0, 1, 0, 30);
        x.setField(2, 1, 1, 12);
        x.setField(1, 1, 1, 11);
        x.setField(0, 1, 1, 10);
        Due.is("before the end", x.advance(3), 0);
        Due.is("before the end: field", x.field(1, 0), 5);
        x.advance(1);
        Due.is("clients in order: last", x.field(1, 0), 32);
        Due.is("clients in order: first", x.field(1, 1), 11);
        Due.is("conflict's tick", x.conflict(0, 5), 4);
        Due.is("conflict's client", x.conflict(0, 4), 2);
        x.undo();
        Due.is("undone: tick", x.tick(), 3);
        Due.is("undone: lease", x.leased(1, 1), 4);
        Due.is("all of them", x.advance(200), 3);
        Due.is("ticks in order: last", x.field(1, 0), 30);
        Due.is("ticks in order: first", x.field(1, 1), 11);
        Due.is("second conflict's client", x.conflict(1, 4), 0);
        Due.is("second conflict's tick", x.conflict(1, 5), 5);
        Due.is("tick", x.tick(), 203);
    }

    private static void mostClients() {
        LeasedTree x = Due.loaded("client;client;client;client;client;field sum;record 0 1");
        for (int c = 0; c < 5; c++) {
            x.lease(c, c % 2, 20 - c, false);
            x.setField(c, 1, 0, 1 << c);
        }
        Due.is("five clients: blockers", x.blockers(2, 1, true), 27);
        Due.is("five clients: nextEnd", x.nextEnd(), 16);
        Due.is("five clients: folded", x.advance(17), 2);
        Due.is("five clients: field", x.field(1, 0), 24);
        Due.is("five clients: others", x.blockers(4, 0, true), 7);
        Due.is("five clients: nextEnd later", x.nextEnd(), 18);
        Due.is("five clients: all folded", x.advance(5), 3);
        Due.is("five clients: sum", x.field(1, 0), 31);
    }

    private static void failingChangesChangeNothing() {
        LeasedTree x = Due.loaded(SETUP);
        x.lease(0, 1, 5, true);
        int count = x.undoCount();
        Due.fails("lease", Due.STATE, () -> x.lease(1, 0, 5, false));
        Due.fails("renew", Due.STATE, () -> x.renew(0, 5));
        Due.fails("setField", Due.STATE, () -> x.setField(0, 1, 0, 5));
        Due.fails("addNode", Due.STATE, () -> x.addNode(0, 1, 2, false));
        Due.fails("removeNode", Due.STATE, () -> x.removeNode(0, 1));
        Due.fails("commit", Due.STATE, () -> x.commit(1));
        Due.fails("abandon", Due.STATE, () -> x.abandon(1));
        Due.fails("resolve", Due.INDEX, () -> x.resolve(0, false));
        Due.fails("advance", Due.ARGUMENT, () -> x.advance(0));
        Due.is("failing changes are no changes", x.undoCount(), count);
        Due.is("failing changes: nodeCount", x.nodeCount(), 7);
        Due.is("failing changes: end", x.leased(0, 1), 5);
    }
}
