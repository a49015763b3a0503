/** Promises 15 to 18: undo, undoCount, save and restore. */
public final class HistoryTest {
    public static void main(String[] args) {
        everyChangeCanBeUndone();
        endedLeaseComesBack();
        latestEight();
        undoLeavesTheBuffer();
        saveAndRestore();
        restoreSetup();
        Due.end("HistoryTest");
    }

    private static LeasedTree start() {
        return Due.loaded("field first;client;client;dir 0 1;record 1 2;record 0 3");
    }

    private static void everyChangeCanBeUndone() {
        LeasedTree x = start();
        x.lease(0, 0, 9, true);
        Due.is("undo lease", x.undo(), 0);
        Due.is("undo lease: lease", x.leased(0, 0), -1);
        Due.fails("undo lease: no more", Due.STATE, x::undo);
        x.lease(0, 0, 9, false);
        x.renew(0, 20);
        Due.is("undo renew", x.undo(), 1);
        Due.is("undo renew: end", x.leased(0, 1), 9);
        x.setField(0, 2, 0, 5);
        Due.is("undo setField", x.undo(), 1);
        Due.is("undo setField: field", x.copyField(0, 2, 0), 0);
        x.addNode(0, 0, 9, true);
        Due.is("undo addNode", x.undo(), 1);
        Due.is("undo addNode: nodeCount", x.nodeCount(), 4);
        Due.fails("undo addNode: node", Due.INDEX, () -> x.node(4, 0));
        x.addNode(0, 0, 8, false);
        Due.is("undo addNode: kind of the next one", x.node(4, 2), 0);
        x.undo();
        x.removeNode(0, 1);
        Due.is("undo removeNode", x.undo(), 1);
        Due.is("undo removeNode: below", x.isInCopy(0, 2), true);
        x.setField(0, 2, 0, 7);
        x.abandon(0);
        Due.is("undo abandon", x.undo(), 2);
        Due.is("undo abandon: field", x.copyField(0, 2, 0), 7);
        x.commit(0);
        Due.is("undo commit", x.undo(), 2);
        Due.is("undo commit: field", x.field(2, 0), 0);
        Due.is("undo commit: lease", x.changedCount(0), 1);
        x.advance(9);
        Due.is("undo advance", x.undo(), 2);
        Due.is("undo advance: tick", x.tick(), 0);
        Due.is("undo advance: folded", x.field(2, 0), 0);
        x.lease(1, 2, 9, false);
        x.setField(1, 2, 0, 8);
        x.commit(1);
        x.commit(0);
        x.resolve(0, true);
        Due.is("undo resolve", x.undo(), 6);
        Due.is("undo resolve: field", x.field(2, 0), 8);
        Due.is("undo resolve: list", x.conflict(0, 3), 7);
        Due.is("undo conflict", x.undo(), 5);
        Due.is("undo conflict: list", x.conflictCount(), 0);
    }

    private static void endedLeaseComesBack() {
        LeasedTree x = start();
        x.lease(1, 0, 9, false);
        x.lease(0, 1, 9, false);
        x.setField(1, 3, 0, 4);
        x.addNode(1, 0, 9, true);
        x.setField(0, 2, 0, 5);
        x.commit(1);
        x.lease(1, 2, 20, false);
        x.setField(1, 2, 0, 6);
        x.abandon(0);
        x.undo();
        x.undo();
        x.undo();
        Due.is("undo of a lease in place of another", x.undo(), 4);
        Due.is("lease again: node", x.leased(1, 0), 0);
        Due.is("lease again: end", x.leased(1, 1), 9);
        Due.is("lease again: changed", x.changedCount(1), 1);
        Due.is("lease again: field", x.copyField(1, 3, 0), 4);
        Due.is("lease again: added", x.isInCopy(1, 4), true);
        Due.is("lease again: not yet joined", x.node(4, 3), 0);
        Due.is("lease again: merged", x.commit(1), 0);
        Due.is("lease again: joined", x.node(4, 3), 1);
        x.lease(1, 3, 7, true);
        x.abandon(1);
        x.lease(1, 2, 8, false);
        x.undo();
        x.undo();
        Due.is("exclusive lease again: node", x.leased(1, 0), 3);
        Due.is("exclusive lease again: end", x.leased(1, 1), 7);
        Due.is("exclusive lease again", x.leased(1, 2), 1);
        Due.is("exclusive lease again: blockers", x.blockers(0, 3, false), 2);
    }

    private static void latestEight() {
        LeasedTree x = start();
        for (int tick = 1; tick <= 11; tick++) {
            x.advance(1);
            Due.is("undoCount at " + tick, x.undoCount(), Math.min(tick, 8));
        }
        Due.is("undo 11", x.undo(), 7);
        Due.is("undo 10", x.undo(), 6);
        Due.is("undo 9", x.undo(), 5);
        Due.is("undo to 8", x.tick(), 8);
        x.advance(100);
        Due.is("undoCount at 108", x.undoCount(), 6);
        for (int left = 5; left >= 0; left--) {
            Due.is("undo with left", x.undo(), left);
        }
        Due.is("undo all of them", x.tick(), 3);
        Due.fails("undo of what is too old", Due.STATE, x::undo);
        Due.is("undoCount at last", x.undoCount(), 0);
    }

    private static void undoLeavesTheBuffer() {
        LeasedTree x = start();
        x.advance(1);
        Due.put(x, "client");
        x.undo();
        Due.is("undo leaves the buffer", x.errorPosition(), -1);
        x.advance(5);
        Due.is("no change", x.undoCount(), 1);
        x.save();
        x.truncate(3);
        Due.is("save and truncate are no changes", x.undoCount(), 1);
        Due.is("undo before the saved copy", x.undo(), 0);
        Due.is("undo leaves the saved copy", x.restore(), 5);
        Due.is("restore leaves the buffer", x.append(0, 0, 0, 0, 0), 3);
    }

    private static void saveAndRestore() {
        LeasedTree x = start();
        Due.fails("restore of nothing", Due.STATE, x::restore);
        x.advance(4);
        x.lease(0, 0, 9, true);
        x.setField(0, 2, 0, 5);
        x.addNode(0, 0, 9, true);
        Due.is("save", x.save(), 4);
        Due.is("save keeps the history", x.undoCount(), 4);
        x.setField(0, 2, 0, 6);
        x.addNode(0, 0, 10, true);
        x.advance(50);
        Due.is("restore", x.restore(), 4);
        Due.is("restore: history", x.undoCount(), 0);
        Due.fails("restore: undo", Due.STATE, x::undo);
        Due.is("restore: tick", x.tick(), 4);
        Due.is("restore: nodeCount", x.nodeCount(), 5);
        Due.is("restore: lease", x.leased(0, 1), 13);
        Due.is("restore: copy", x.copyField(0, 2, 0), 5);
        Due.is("restore: added", x.isInCopy(0, 4), true);
        Due.is("restore: trunk", x.field(2, 0), 0);
        x.commit(0);
        Due.is("restored copy is merged", x.field(2, 0), 5);
        Due.is("restored addition is merged", x.node(4, 3), 1);
        Due.is("restore again", x.restore(), 4);
        Due.is("restore again: trunk", x.field(2, 0), 0);
        x.advance(1);
        Due.is("save again", x.save(), 5);
        x.advance(1);
        Due.is("restore the second copy", x.restore(), 5);
    }

    private static void restoreSetup() {
        LeasedTree x = new LeasedTree();
        Due.is("save a new object", x.save(), 0);
        x.advance(3);
        Due.is("restore a new object", x.restore(), 0);
        Due.is("restore a new object: nodes", x.nodeCount(), 1);
        LeasedTree y = start();
        y.lease(0, 0, 9, false);
        y.lease(1, 0, 9, false);
        y.setField(0, 2, 0, 1);
        y.setField(1, 2, 0, 2);
        y.advance(9);
        y.save();
        y.resolve(0, true);
        y.restore();
        Due.is("restore: conflict", y.conflict(0, 5), 9);
        Due.is("restore: field", y.field(2, 0), 1);
        Due.is("restore: fields", y.setup(0), 1);
        Due.is("restore: clients", y.setup(1), 2);
        Due.is("restore: rule", y.rule(0), 4);
    }
}
