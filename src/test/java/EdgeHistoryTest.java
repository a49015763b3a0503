/** The boundaries of undo, save and restore: section 7, promises 15 to 18, and the 512 calls of an object. */
public final class EdgeHistoryTest {
    public static void main(String[] args) {
        whatIsAChange();
        whatIsNoChange();
        latestEight();
        undoneOneByOne();
        numbersAreFreeAgain();
        numbersThatAreNotFree();
        undoOfAFoldingAdvance();
        undoOfAResolve();
        undoAfterANewChange();
        endedLeaseComesBack();
        undoLeavesBufferAndSavedCopy();
        refusedUndo();
        saveInPlaceOfAnEarlierOne();
        saveTakesACopy();
        restoreKeepsTheCopy();
        restoreClearsTheHistory();
        restoreLeavesTheBuffer();
        refusedRestore();
        fiveHundredAndTwelveCalls();
        Due.end("EdgeHistoryTest");
    }

    /** "The successful calls of the methods of the section 'Changes' are changes." */
    private static void whatIsAChange() {
        LeasedTree x = Worlds.plain();
        Due.is("no change", x.undoCount(), 0);
        x.lease(0, 1, 5, false);
        Due.is("lease", x.undoCount(), 1);
        x.renew(0, 6);
        Due.is("renew", x.undoCount(), 2);
        x.setField(0, 2, 1, 4);
        Due.is("setField", x.undoCount(), 3);
        x.addNode(0, 1, 9, true);
        Due.is("addNode", x.undoCount(), 4);
        x.removeNode(0, 3);
        Due.is("removeNode", x.undoCount(), 5);
        x.commit(0);
        Due.is("commit", x.undoCount(), 6);
        x.advance(1);
        Due.is("advance", x.undoCount(), 7);
        x.lease(1, 1, 5, false);
        Due.is("lease again", x.undoCount(), 8);
        LeasedTree y = Worlds.plain();
        y.lease(1, 1, 5, false);
        y.abandon(1);
        Due.is("abandon", y.undoCount(), 2);
        y.lease(1, 2, 5, false);
        Due.is("setField to what it is", y.setField(1, 2, 0, 10), 10);
        Due.is("a change that changes nothing", y.undoCount(), 4);
        LeasedTree z = Worlds.quarrel();
        z.undo();
        Due.is("before the quarrel's end", z.undoCount(), 7);
        z.commit(1);
        z.undo();
        z.undo();
        z.undo();
        Due.is("quarrel's changes undone", z.undoCount(), 5);
    }

    /** Questions, the input buffer, save and calls that are refused are no changes. */
    private static void whatIsNoChange() {
        LeasedTree x = Worlds.leased();
        Due.is("six changes", x.undoCount(), 6);
        for (Twins.Question q : Twins.questions(Worlds.quarrel())) {
            Twins.answer(q, x);
        }
        Due.is("questions are no changes", x.undoCount(), 6);
        Due.put(x, "x");
        x.truncate(3);
        Due.fails("load", Due.ARGUMENT, x::load);
        x.save();
        Due.fails("lease", Due.STATE, () -> x.lease(0, 1, 5, false));
        Due.is("refused calls, buffer and save are no changes", x.undoCount(), 6);
        Due.is("undo is no change", x.undo(), 5);
        Due.is("undo undoes the latest change", x.isInCopy(0, 3), true);
        Due.is("undo is no change again", x.undo(), 4);
        Due.fails("undo undoes the change before", Due.INDEX, () -> x.node(8, 0));
    }

    private static LeasedTree ticked(int changes) {
        LeasedTree x = Worlds.plain();
        for (int i = 0; i < changes; i++) {
            x.advance(1);
        }
        return x;
    }

    /** "The latest 8 changes can be undone", "Returns 0 to 8". */
    private static void latestEight() {
        for (int changes = 0; changes <= 20; changes++) {
            int most = Math.min(changes, 8);
            LeasedTree x = ticked(changes);
            Due.is("undoCount after " + changes, x.undoCount(), most);
            for (int left = most - 1; left >= 0; left--) {
                Due.is("undo of " + changes + ", left " + left, x.undo(), left);
            }
            Due.is("tick when all is undone of " + changes, x.tick(), changes - most);
            Twins.refused("one undo more of " + changes, Due.STATE, () -> {
                LeasedTree y = ticked(most);
                for (int i = 0; i < most; i++) {
                    y.undo();
                }
                return y;
            }, LeasedTree::undo);
            Due.fails("one undo more after " + changes, Due.STATE, x::undo);
        }
    }

    /** "one by one", "Undoes the latest change that was not undone yet". */
    private static void undoneOneByOne() {
        LeasedTree x = Worlds.leased();
        x.undo();
        Due.is("removeNode undone", x.isInCopy(0, 4), true);
        Due.is("removeNode undone: addNode stands", x.isInCopy(0, 8), true);
        x.undo();
        Due.is("addNode undone", x.nodeCount(), 8);
        x.undo();
        Due.is("both undone", x.nodeCount(), 7);
        Due.is("both undone: setField stands", x.copyField(0, 2, 0), 11);
        x.undo();
        Due.is("setField undone", x.copyField(0, 2, 0), 10);
        Due.is("setField undone: lease stands", x.leased(1, 0), 5);
        x.undo();
        Due.is("lease undone", x.leased(1, 0), -1);
        Due.is("lease undone: the first stands", x.leased(0, 0), 1);
        Due.is("the first undone", x.undo(), 0);
        Due.is("the first undone: lease", x.leased(0, 0), -1);
        Due.fails("none is left", Due.STATE, x::undo);
    }

    /** "also the numbers of nodes that were added are free again then". */
    private static void numbersAreFreeAgain() {
        LeasedTree x = Worlds.leased();
        x.setField(0, 8, 1, 5);
        x.undo();
        x.undo();
        x.undo();
        x.undo();
        Due.is("numbers are free", x.nodeCount(), 7);
        Due.fails("number 7 is not there", Due.INDEX, () -> x.node(7, 0));
        Due.is("number 7 again, of another client", x.addNode(1, 5, 33, true), 7);
        Due.is("number 7 again: parent", x.node(7, 0), 5);
        Due.is("number 7 again: label", x.node(7, 1), 33);
        Due.is("number 7 again: record", x.node(7, 2), 1);
        Due.is("number 7 again: above", x.node(7, 4), 2);
        Due.is("number 7 again: in the copy", x.isInCopy(1, 7), true);
        Due.is("number 7 again: not in the old copy", x.isInCopy(0, 7), false);
        Due.is("number 8 again", x.addNode(1, 5, 34, true), 8);
        Due.is("number 8 again: fields are 0", x.copyField(1, 8, 1), 0);
        LeasedTree y = Worlds.full();
        Due.fails("60 nodes", Due.STATE, () -> y.addNode(1, 0, 500, true));
        y.undo();
        Due.is("the 60th number again", y.addNode(1, 0, 500, true), 59);
        Due.fails("60 nodes again", Due.STATE, () -> y.addNode(0, 0, 501, true));
        LeasedTree z = Worlds.plain();
        z.lease(0, 0, 9, false);
        z.addNode(0, 0, 9, true);
        z.setField(0, 7, 2, 5);
        z.commit(0);
        Due.is("merged: alive", z.node(7, 3), 1);
        z.undo();
        Due.is("commit undone: not alive", z.node(7, 3), 0);
        Due.is("commit undone: field", z.field(7, 2), 0);
        z.undo();
        z.undo();
        z.addNode(0, 0, 10, true);
        z.commit(0);
        Due.is("another node with the number: field", z.field(7, 2), 0);
    }

    /** Only undoing frees numbers: not removing, not abandoning. */
    private static void numbersThatAreNotFree() {
        LeasedTree x = Worlds.full();
        x.removeNode(0, 59);
        Due.fails("removed: 60 nodes", Due.STATE, () -> x.addNode(0, 0, 500, true));
        x.abandon(0);
        Due.fails("abandoned: 60 nodes", Due.STATE, () -> x.addNode(1, 0, 500, true));
        Due.is("abandoned: nodeCount", x.nodeCount(), 60);
    }

    private static void undoOfAFoldingAdvance() {
        LeasedTree x = Worlds.leased();
        Due.is("folded", x.advance(6), 2);
        Due.is("folded: node 7", x.node(7, 3), 1);
        x.undo();
        Due.is("undone: tick", x.tick(), 0);
        Due.is("undone: end", x.leased(0, 1), 5);
        Due.is("undone: node 7", x.node(7, 3), 0);
        Due.is("undone: node 3", x.node(3, 3), 1);
        Due.is("undone: field", x.field(2, 0), 10);
        Due.is("undone: copy", x.copyField(0, 2, 0), 11);
        Due.is("again", x.advance(6), 2);
    }

    private static void undoOfAResolve() {
        LeasedTree x = Worlds.quarrel();
        x.resolve(4, true);
        x.resolve(2, true);
        x.resolve(0, false);
        x.undo();
        Due.is("resolve undone", x.conflict(0, 0), 3);
        x.undo();
        Due.is("accepted value undone", x.field(2, 1), 1);
        x.undo();
        Due.is("accepted removal undone", x.node(6, 3), 1);
        Due.is("list as before", x.conflict(4, 0), 4);
        x.undo();
        Due.is("commit undone", x.conflictCount(), 0);
        Due.is("commit undone: lease", x.leased(1, 0), 0);
    }

    /** "Undoes the latest change that was not undone yet": there is no way forward again. */
    private static void undoAfterANewChange() {
        LeasedTree x = ticked(3);
        x.undo();
        x.advance(10);
        Due.is("undoCount", x.undoCount(), 3);
        x.undo();
        Due.is("the new change undone", x.tick(), 2);
        x.undo();
        Due.is("the one before undone", x.tick(), 1);
        LeasedTree y = ticked(12);
        y.undo();
        y.undo();
        for (int i = 0; i < 3; i++) {
            y.advance(10);
        }
        Due.is("eight again", y.undoCount(), 8);
        for (int i = 0; i < 8; i++) {
            y.undo();
        }
        Due.is("the latest eight, with old ones", y.tick(), 5);
    }

    /** A client's lease comes back whole, by undo and by restore, in place of a later one. */
    private static void endedLeaseComesBack() {
        for (int way = 0; way < 2; way++) {
            LeasedTree x = Worlds.leased();
            x.save();
            x.abandon(0);
            x.abandon(1);
            x.lease(0, 6, 100, true);
            x.setField(0, 6, 0, 66);
            x.lease(1, 1, 99, false);
            for (int i = 0; i < 5; i++) {
                if (way == 0) {
                    x.undo();
                }
            }
            String of = way == 0 ? "undone: " : "restored: ";
            Due.is(of + "tick", way == 0 ? x.tick() : x.restore(), 0);
            int[][] parts = {{1, 5, 0}, {5, 6, 1}};
            for (int c = 0; c < 2; c++) {
                for (int what = 0; what < 3; what++) {
                    Due.is(of + "leased(" + c + ", " + what + ")", x.leased(c, what), parts[c][what]);
                }
            }
            Due.is(of + "copy", x.copyField(0, 2, 0), 11);
            Due.is(of + "changed", x.changedCount(0), 1);
            Due.is(of + "added", x.isInCopy(0, 8), true);
            Due.is(of + "removed", x.isInCopy(0, 3), false);
            Due.is(of + "conflicts", x.commit(0), 0);
            Due.is(of + "merged", x.field(2, 0), 11);
            Due.is(of + "merged: added", x.node(8, 3), 1);
            Due.is(of + "merged: removed", x.node(3, 3), 0);
            Due.is(of + "nothing of the later lease", x.field(6, 0), 0);
        }
    }

    private static void undoLeavesBufferAndSavedCopy() {
        LeasedTree x = Worlds.leased();
        x.undo();
        Due.is("buffer after undo", x.append(0, 0, 0, 0, 0), 11);
        Due.is("errorPosition after undo", x.errorPosition(), 7);
        LeasedTree y = ticked(2);
        y.save();
        y.undo();
        Due.is("tick after undo", y.tick(), 1);
        Due.is("saved copy after undo", y.restore(), 2);
    }

    /** Promise 15: "Throws IllegalStateException if there is none to undo". */
    private static void refusedUndo() {
        Twins.refused("undo of nothing", Due.STATE, Worlds::plain, LeasedTree::undo);
        Twins.refused("undo after restore", Due.STATE, () -> {
            LeasedTree x = Worlds.leased();
            x.restore();
            return x;
        }, LeasedTree::undo);
        Twins.refused("undo after load", Due.STATE, () -> {
            LeasedTree x = Worlds.quarrel();
            Due.put(x, "client");
            x.load();
            return x;
        }, LeasedTree::undo);
    }

    /** Promise 17: "in place of an earlier one", "Returns the present tick". */
    private static void saveInPlaceOfAnEarlierOne() {
        LeasedTree x = Worlds.plain();
        Due.is("save at 0", x.save(), 0);
        x.advance(9);
        Due.is("save at 9", x.save(), 9);
        x.advance(1);
        Due.is("restore", x.restore(), 9);
        LeasedTree y = new LeasedTree();
        Due.is("save of a new object", y.save(), 0);
        y.advance(1);
        Due.is("restore of a new object", y.restore(), 0);
    }

    /** Promise 17: "Saves a copy of everything but the input buffer and the undo history". */
    private static void saveTakesACopy() {
        LeasedTree x = Worlds.quarrel();
        x.restore();
        Due.is("saved: tick", x.tick(), 3);
        Due.is("saved: no conflicts yet", x.conflictCount(), 0);
        Due.is("saved: lease", x.leased(1, 1), 53);
        Due.is("saved: copy", x.copyField(1, 2, 1), 2);
        Due.is("saved: added", x.isInCopy(1, 9), true);
        Due.is("saved: removed", x.isInCopy(1, 6), false);
        Due.is("saved: trunk", x.field(2, 1), 1);
        Due.is("saved: base", x.changedCount(1), 2);
        Due.is("saved: conflicts to come", x.commit(1), 5);
        x.resolve(2, true);
        x.save();
        x.resolve(0, false);
        x.restore();
        Due.is("saved: conflicts", x.conflictCount(), 4);
        Due.is("saved: accepted value", x.field(2, 1), 2);
    }

    /** Promise 18: "equal to the saved copy, which is kept". */
    private static void restoreKeepsTheCopy() {
        LeasedTree x = Worlds.leased();
        x.save();
        for (int i = 0; i < 3; i++) {
            x.setField(0, 2, 0, 100 + i);
            x.addNode(0, 1, 50 + i, true);
            x.commit(0);
            x.advance(10);
            Due.is("restore " + i, x.restore(), 0);
            Due.is("restore " + i + ": copy", x.copyField(0, 2, 0), 11);
            Due.is("restore " + i + ": nodeCount", x.nodeCount(), 9);
            Due.is("restore " + i + ": lease", x.leased(1, 1), 6);
            Due.is("restore " + i + ": trunk", x.field(2, 0), 10);
            Due.is("restore " + i + ": size", x.size(0), 7);
        }
        Due.is("number after restore", x.addNode(0, 1, 60, true), 9);
    }

    /** Promise 18: "and clears the undo history". */
    private static void restoreClearsTheHistory() {
        LeasedTree x = Worlds.leased();
        Due.is("restore", x.restore(), 0);
        Due.is("restore: undoCount", x.undoCount(), 0);
        Due.fails("restore: undo", Due.STATE, x::undo);
        x.advance(1);
        Due.is("a change after restore", x.undoCount(), 1);
        Due.is("undo to the restored copy", x.undo(), 0);
        Due.is("undo to the restored copy: tick", x.tick(), 0);
    }

    private static void restoreLeavesTheBuffer() {
        LeasedTree x = Worlds.leased();
        Due.put(x, "d sum");
        x.restore();
        Due.is("buffer after restore", x.append(0, 0, 0, 0, 0), 16);
        Due.is("buffer after restore: valid", x.errorPosition(), -1);
        LeasedTree y = Worlds.leased();
        y.truncate(0);
        y.restore();
        Due.is("empty buffer after restore", y.append(0, 0, 0, 0, 0), 0);
    }

    /** Promise 18: "Throws IllegalStateException if there is no copy". */
    private static void refusedRestore() {
        Twins.refused("restore of nothing", Due.STATE, () -> ticked(3), LeasedTree::restore);
        Twins.refused("restore after load", Due.STATE, () -> {
            LeasedTree x = Worlds.leased();
            Due.put(x, "d sum");
            x.load();
            x.advance(1);
            return x;
        }, LeasedTree::restore);
    }

    /** "An object is used for at most 512 calls": the last of them must be answered as the first. */
    private static void fiveHundredAndTwelveCalls() {
        LeasedTree x = new LeasedTree();
        x.append('c' << 24 | 'l' << 16 | 'i' << 8 | 'e', 'n' << 24 | 't' << 16, 0, 0, 0);
        Due.is("call 2", x.load(), 1);
        for (int call = 3; call + 2 <= 512; call += 3) {
            int tick = call - 3;
            Due.is("call " + call, x.lease(0, 0, 2, true), tick + 2);
            Due.is("call " + (call + 1), x.advance(3), 1);
            Due.is("call " + (call + 2), x.tick(), tick + 3);
        }
        LeasedTree y = Worlds.almostFull();
        y.addNode(0, 0, 500, true);
        // 75 calls at most are used up to here.
        for (int i = 0; i < 215; i++) {
            y.undo();
            Due.is("node 59 again", y.addNode(i % 2, 0, 500 + i, true), 59);
        }
        Due.fails("node 60 after many calls", Due.STATE, () -> y.addNode(0, 0, 900, false));
    }
}
