/** The states that the tests of the boundaries start from; each call makes a new object by the same calls. */
final class Worlds {
    /**
     * Nodes 1 and 5 are directories of the root, 3 is a directory in 1; the records are 2 in 1, 4 in 3 and
     * 6 in 5. Fields: 0 sum, 1 first, 2 last. Clients: 0 to 2.
     */
    static final String SETUP = "field sum;field first;field last;client;client;client;"
            + "dir 0 1;record 1 2;dir 1 3;record 3 4;dir 0 5;record 5 6;value 2 0 10;value 2 1 20";

    private Worlds() {
    }

    static LeasedTree plain() {
        return Due.loaded(SETUP);
    }

    /** Client 0 holds node 1 shared till 5, client 1 node 5 exclusively till 6, client 2 nothing. Tick 0. */
    static LeasedTree leased() {
        LeasedTree x = plain();
        Due.put(x, "client;fiel");
        x.save();
        x.lease(0, 1, 5, false);
        x.lease(1, 5, 6, true);
        x.setField(0, 2, 0, 11);
        x.addNode(0, 1, 9, false);
        x.addNode(0, 7, 9, true);
        x.removeNode(0, 3);
        return x;
    }

    /** At tick 3 after two leases of the root, with the conflicts 3 of node 8, 2 of 9, 0 of 2, 1 of 4 and 4 of 6. */
    static LeasedTree quarrel() {
        LeasedTree x = plain();
        x.advance(3);
        x.lease(0, 0, 50, false);
        x.lease(1, 0, 50, false);
        x.setField(0, 2, 1, 1);
        x.addNode(0, 0, 7, true);
        x.addNode(1, 0, 7, false);
        x.addNode(1, 8, 0, true);
        x.removeNode(0, 3);
        x.setField(0, 6, 2, 5);
        x.setField(1, 2, 1, 2);
        x.setField(1, 4, 2, 9);
        x.removeNode(1, 6);
        x.commit(0);
        x.save();
        x.commit(1);
        return x;
    }

    /** Sixty nodes: client 0 holds the root shared till 90, and has added the nodes 7 to 59, labels 107 to 159. */
    static LeasedTree full() {
        LeasedTree x = almostFull();
        x.addNode(0, 0, 159, true);
        return x;
    }

    /** As in full(), but node 59 is not there. Client 1 holds the root as well. */
    static LeasedTree almostFull() {
        LeasedTree x = plain();
        x.lease(0, 0, 90, false);
        x.lease(1, 0, 90, false);
        for (int n = 7; n < 59; n++) {
            x.addNode(0, 0, 100 + n, n % 2 == 1);
        }
        return x;
    }

    /** Forty conflicts of kind 0 in the list, in the order of the nodes 1 to 10 and their fields 0 to 3. */
    static LeasedTree fortyConflicts() {
        StringBuilder text = new StringBuilder("field first;".repeat(4) + "client;client");
        for (int n = 1; n <= 11; n++) {
            text.append(";record 0 ").append(n);
        }
        LeasedTree x = Due.loaded(text.toString());
        x.lease(0, 0, 90, false);
        x.lease(1, 0, 90, false);
        for (int n = 1; n <= 10; n++) {
            for (int f = 0; f < 4; f++) {
                x.setField(0, n, f, -1);
                x.setField(1, n, f, 10 * n + f);
            }
        }
        x.commit(0);
        x.commit(1);
        return x;
    }
}
