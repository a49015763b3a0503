/** The boundaries of tree, rules, leases and copies: sections 1 to 4 of the description, sentence by sentence. */
public final class EdgeTreeTest {
    private static final int LEAST = Integer.MIN_VALUE;
    private static final int MOST = Integer.MAX_VALUE;

    public static void main(String[] args) {
        sixtyNodes();
        nodesKeepTheirNumbers();
        rootIsAlwaysAlive();
        labels();
        sixFields();
        recordsHaveFields();
        differentLabels();
        sumBounds();
        maxBounds();
        minBounds();
        bitsBounds();
        firstBounds();
        lastBounds();
        firstTick();
        fiveClients();
        oneLeaseForAClient();
        touching();
        exclusiveOrShared();
        ownLeaseDoesNotBlock();
        ticksPassOneByOne();
        foldedInTheOrderOfClients();
        foldedLeaseMakesRoom();
        baseIsWhatIsAlive();
        baseNeverChanges();
        addedNodes();
        changedFields();
        Due.end("EdgeTreeTest");
    }

    /** "There are at most 60 nodes, numbered from 0". */
    private static void sixtyNodes() {
        Due.is("59 nodes", Worlds.almostFull().nodeCount(), 59);
        Due.is("the 60th node", Worlds.almostFull().addNode(0, 0, 159, true), 59);
        Due.is("the 60th node of another copy", Worlds.almostFull().addNode(1, 0, 159, true), 59);
        Due.is("60 nodes", Worlds.full().nodeCount(), 60);
        Twins.refused("the 61st record", Due.STATE, Worlds::full, x -> x.addNode(0, 0, 500, true));
        Twins.refused("the 61st directory of another copy", Due.STATE, Worlds::full, x -> x.addNode(1, 1, 500, false));
        LeasedTree x = Worlds.full();
        Due.is("field of the 60th node", x.setField(0, 59, 2, 7), 0);
        Due.is("60 nodes merged", x.commit(0), 0);
        Due.is("60 nodes alive", x.size(0), 60);
        Due.is("the 60th node alive", x.node(59, 3), 1);
        Due.is("the 60th node's field", x.field(59, 2), 7);
        Due.is("total over 60 nodes", x.total(0, 2), 7);
        Due.is("greatest of 60 nodes", x.greatest(0, 2), 59);
        Due.is("children of 60 nodes", x.childCount(0), 55);
        Due.is("the last child of 60 nodes", x.child(0, 54), 59);
        Due.is("lease of the 60th node", x.lease(0, 59, 5, false), 5);
        Due.fails("lease of the 61st node", Due.INDEX, () -> x.lease(2, 60, 5, false));
        Due.is("the 60th node in a copy", x.isInCopy(0, 59), true);
    }

    /** "a node keeps its number": removed, abandoned and refused nodes do not give theirs back. */
    private static void nodesKeepTheirNumbers() {
        LeasedTree x = Worlds.plain();
        x.lease(0, 0, 9, false);
        Due.is("first number", x.addNode(0, 0, 9, true), 7);
        x.removeNode(0, 7);
        Due.is("number after a removed one", x.addNode(0, 0, 9, true), 8);
        x.abandon(0);
        x.lease(0, 0, 9, false);
        x.lease(1, 0, 9, false);
        Due.is("number after an abandoned one", x.addNode(0, 0, 9, true), 9);
        Due.is("number in another copy", x.addNode(1, 0, 9, true), 10);
        x.commit(0);
        Due.is("refused node", x.commit(1), 1);
        x.lease(1, 0, 9, false);
        Due.is("number after a refused one", x.addNode(1, 0, 10, false), 11);
        x.removeNode(1, 2);
        x.commit(1);
        int[] alive = {1, 1, 0, 1, 1, 1, 1, 0, 0, 1, 0, 1};
        for (int n = 0; n < alive.length; n++) {
            Due.is("alive: " + n, x.node(n, 3), alive[n]);
        }
        Due.is("dead node's label", x.node(2, 1), 2);
        Due.is("dead node's parent", x.node(2, 0), 1);
        Due.is("nodes, alive or not", x.nodeCount(), 12);
    }

    /** "Node 0 is the root, a directory that is always alive." */
    private static void rootIsAlwaysAlive() {
        LeasedTree x = Worlds.plain();
        x.lease(0, 0, 9, false);
        Due.fails("removal of the root", Due.STATE, () -> x.removeNode(0, 0));
        Due.is("removal of all below", x.removeNode(0, 1) + x.removeNode(0, 5), 6);
        x.commit(0);
        Due.is("root alone: alive", x.node(0, 3), 1);
        Due.is("root alone: size", x.size(0), 1);
        Due.is("root alone: walk", x.walk(0, 0), 0);
        Due.is("root alone: lease", x.lease(0, 0, 9, true), 9);
        Due.is("root alone: in the copy", x.isInCopy(0, 0), true);
        Due.fails("root is no record", Due.STATE, () -> x.setField(0, 0, 0, 1));
        Due.is("root is a directory", x.addNode(0, 0, 0, false), 7);
        LeasedTree full = Worlds.full();
        full.commit(1);
        Due.is("root after 60 nodes", full.node(0, 3), 1);
    }

    /** "a parent (a directory with a lower number) and a label (0 to 999)". */
    private static void labels() {
        LeasedTree x = Worlds.leased();
        Due.is("label 0", x.addNode(0, 1, 0, true), 9);
        Due.is("label 999", x.addNode(0, 1, 999, false), 10);
        Due.is("label 0 of the node", x.node(9, 1), 0);
        Due.is("label 999 of the node", x.node(10, 1), 999);
        x.commit(0);
        Due.is("label 0 found", x.find(1, 0), 9);
        Due.is("label 999 found", x.find(1, 999), 10);
        Due.is("lowest label", x.child(1, 0), 9);
        Due.is("highest label", x.child(1, x.childCount(1) - 1), 10);
        for (int label : new int[] {-1, 1000, LEAST, MOST}) {
            Twins.refused("label " + label, Due.ARGUMENT, Worlds::leased, y -> y.addNode(0, 1, label, true));
            Due.fails("find(1, " + label + ")", Due.ELEMENT, () -> x.find(1, label));
        }
    }

    /** "there are at most 6 fields, numbered from 0". */
    private static void sixFields() {
        Twins.Recipe six = () -> {
            LeasedTree x = Due.loaded("field sum;".repeat(6) + "client;record 0 1;value 1 5 8");
            x.lease(0, 0, 9, false);
            return x;
        };
        LeasedTree x = six.make();
        for (int f = 0; f < 6; f++) {
            Due.is("field " + f, x.field(1, f), f == 5 ? 8 : 0);
            Due.is("setField of " + f, x.setField(0, 1, f, 10 + f), f == 5 ? 8 : 0);
        }
        Due.is("six changed fields", x.changedCount(0), 6);
        x.commit(0);
        for (int f = 0; f < 6; f++) {
            Due.is("field " + f + " merged", x.field(1, f), 10 + f);
        }
        for (int f : new int[] {6, -1, LEAST, MOST}) {
            Twins.refused("rule(" + f + ")", Due.INDEX, six, y -> y.rule(f));
            Twins.refused("field(1, " + f + ")", Due.INDEX, six, y -> y.field(1, f));
            Twins.refused("setField of " + f, Due.INDEX, six, y -> y.setField(0, 1, f, 1));
            Twins.refused("copyField of " + f, Due.INDEX, six, y -> y.copyField(0, 1, f));
            Twins.refused("wouldBe of " + f, Due.INDEX, six, y -> y.wouldBe(0, 1, f));
            Twins.refused("total of " + f, Due.INDEX, six, y -> y.total(0, f));
            Twins.refused("greatest of " + f, Due.INDEX, six, y -> y.greatest(0, f));
        }
        Twins.refused("field that the setup does not have", Due.INDEX, Worlds::leased, y -> y.setField(0, 2, 3, 1));
    }

    /** "A record has a value for each field": a directory has none. */
    private static void recordsHaveFields() {
        LeasedTree x = Worlds.leased();
        Due.is("record's field", x.setField(0, 8, 2, 4), 0);
        Twins.refused("directory's field", Due.STATE, Worlds::leased, y -> y.setField(0, 1, 0, 4));
        Twins.refused("added directory's field", Due.STATE, Worlds::leased, y -> y.setField(0, 7, 0, 4));
        Twins.refused("node below a record", Due.STATE, Worlds::leased, y -> y.addNode(0, 2, 4, true));
        Twins.refused("node below an added record", Due.STATE, Worlds::leased, y -> y.addNode(0, 8, 4, true));
        Due.is("directory's field of the trunk", x.field(1, 0), 0);
        Due.is("directory's field of the copy", x.copyField(0, 1, 0), 0);
    }

    /** "alive nodes with the same parent have different labels". */
    private static void differentLabels() {
        LeasedTree x = Worlds.leased();
        Due.is("label of a removed node", x.addNode(0, 1, 3, true), 9);
        Due.is("label of a node with another parent", x.addNode(0, 1, 5, true), 10);
        Due.is("label of the parent", x.addNode(0, 1, 1, true), 11);
        Twins.refused("label of a record", Due.STATE, Worlds::leased, y -> y.addNode(0, 1, 2, false));
        Twins.refused("label of an added directory", Due.STATE, Worlds::leased, y -> y.addNode(0, 1, 9, true));
        Twins.refused("label of an added record", Due.STATE, Worlds::leased, y -> y.addNode(0, 7, 9, true));
        LeasedTree z = Worlds.plain();
        z.lease(0, 0, 9, false);
        z.lease(1, 0, 9, false);
        z.removeNode(0, 5);
        z.commit(0);
        Due.is("label of a node that is alive in the copy alone", z.isInCopy(1, 5), true);
        Due.fails("label of a node that is dead in the trunk", Due.STATE, () -> z.addNode(1, 0, 5, true));
        z.lease(0, 0, 9, false);
        Due.is("label of a dead node", z.addNode(0, 0, 5, true), 7);
        Due.is("label of a dead node merged", z.commit(0), 0);
        Due.is("label of a dead node found", z.find(0, 5), 7);
    }

    /** One record with one field; clients 0 to 4. */
    private static LeasedTree one(String rule, int value) {
        return Due.loaded("field " + rule + ";client;client;client;client;client;record 0 1;value 1 0 " + value);
    }

    /** Leases for as many clients as there are values, each of which sets its value; all are merged in order. */
    private static int merge(LeasedTree x, int... values) {
        for (int c = 0; c < values.length; c++) {
            x.lease(c, 1, 9, false);
            x.setField(c, 1, 0, values[c]);
        }
        for (int c = 0; c < values.length; c++) {
            x.commit(c);
        }
        return x.field(1, 0);
    }

    /** Brings a sum field from -sign * 1000000 to sign * 500000000: each merge adds what was set less what was there. */
    private static LeasedTree halfway(int sign) {
        LeasedTree x = one("sum", -sign * 1000000);
        int more = sign * 762500;
        Due.is("way 1", merge(x, more, more, more, more, more), sign * 7812500);
        Due.is("way 2", merge(x, 0, 0, 0, 0, 0), -sign * 31250000);
        Due.is("way 3", merge(x, 0, 0, 0, 0, 0), sign * 125000000);
        Due.is("way 4", merge(x, 0, 0, 0, 0, 0), -sign * 500000000);
        return x;
    }

    /** "sum: t + c - b, but at least -1000000000 and at most 1000000000". */
    private static void sumBounds() {
        for (int sign = -1; sign <= 1; sign += 2) {
            Due.is("sum just inside", merge(halfway(sign), 0, 0, -sign), sign * 999999999);
            Due.is("sum at the bound", merge(halfway(sign), 0, 0, 0), sign * 1000000000);
            Due.is("sum just outside", merge(halfway(sign), 0, 0, sign), sign * 1000000000);
            Due.is("sum far outside", merge(halfway(sign), 0, 0, 0, 0, 0), sign * 1000000000);
            LeasedTree x = halfway(sign);
            merge(x, 0, 0, sign);
            Due.is("sum from the bound", merge(x, sign * 1000000), sign * 1000000);
            Due.is("sum from the bound is no more than c", merge(x, sign * 999999), sign * 999999);
            LeasedTree y = halfway(sign);
            merge(y, 0, 0, 0);
            y.lease(0, 1, 9, false);
            y.lease(1, 1, 9, false);
            Due.is("previous value at the bound", y.setField(0, 1, 0, sign * 1000000), sign * 1000000000);
            y.setField(1, 1, 0, -sign * 1000000);
            y.commit(0);
            Due.is("wouldBe at the other bound", y.wouldBe(1, 1, 0), -sign * 1000000000);
            y.commit(1);
            Due.is("sum at the other bound", y.field(1, 0), -sign * 1000000000);
            Due.is("total at the other bound", y.total(0, 0), -sign * 1000000000);
        }
        Due.is("sum of the same value", merge(one("sum", 5), 5), 5);
        Due.is("sum of both", merge(one("sum", 5), 6, 4), 5);
    }

    private static void rule(String rule, int b, int t, int c, int want, int conflicts) {
        String of = rule + " of b " + b + ", t " + t + ", c " + c;
        LeasedTree x = one(rule, b);
        x.lease(1, 1, 9, false);
        x.setField(1, 1, 0, c);
        Due.is(of + ": t", merge(x, t), t);
        Due.is(of + ": wouldBe", x.wouldBe(1, 1, 0), want);
        Due.is(of + ": conflicts", x.commit(1), conflicts);
        Due.is(of, x.field(1, 0), want);
    }

    /** "max: the greater of t and c". */
    private static void maxBounds() {
        rule("max", 5, 7, 6, 7, 0);
        rule("max", 5, 7, 7, 7, 0);
        rule("max", 5, 7, 8, 8, 0);
        rule("max", 5, 5, 4, 5, 0);
        rule("max", -1000000, -1000000, 1000000, 1000000, 0);
        rule("max", -1000000, 1000000, 999999, 1000000, 0);
    }

    /** "min: the lesser of t and c". */
    private static void minBounds() {
        rule("min", 9, 7, 8, 7, 0);
        rule("min", 9, 7, 7, 7, 0);
        rule("min", 9, 7, 6, 6, 0);
        rule("min", 9, 9, 10, 9, 0);
        rule("min", 1000000, 1000000, -1000000, -1000000, 0);
        rule("min", 1000000, -1000000, -999999, -1000000, 0);
    }

    /** "bits: t without the bits that are set in b and not in c, and with the bits that are set in c and not in b". */
    private static void bitsBounds() {
        rule("bits", 0, 0, 1, 1, 0);
        rule("bits", 1, 1, 0, 0, 0);
        rule("bits", 12, 10, 6, 2, 0);
        rule("bits", 12, 3, 10, 3, 0);
        rule("bits", 5, 7, 4, 6, 0);
        rule("bits", 0, 3, -1, -1, 0);
        rule("bits", -1, 3, 0, 0, 0);
        rule("bits", -1, -4, -2, -4, 0);
        rule("bits", -1000000, 1000000, 1000000, 1000000, 0);
        rule("bits", 0, 1000000, -1000000, -64, 0);
    }

    /** "first: c if t equals b, and t if it equals c; otherwise t, and this is a conflict of kind 0". */
    private static void firstBounds() {
        rule("first", 5, 5, 6, 6, 0);
        rule("first", 5, 6, 6, 6, 0);
        rule("first", 5, 7, 6, 7, 1);
        rule("first", 5, 4, 6, 4, 1);
        rule("first", -1000000, 1000000, 999999, 1000000, 1);
        rule("first", 0, 0, -1, -1, 0);
        LeasedTree x = one("first", 5);
        x.lease(1, 1, 9, false);
        x.setField(1, 1, 0, 7);
        merge(x, 6);
        merge(x, 5);
        Due.is("t is b again", x.commit(1), 0);
        Due.is("t is b again: c", x.field(1, 0), 7);
    }

    /** "last: c". */
    private static void lastBounds() {
        rule("last", 5, 5, 6, 6, 0);
        rule("last", 5, 7, 6, 6, 0);
        rule("last", 5, 6, 6, 6, 0);
        rule("last", 0, 1000000, -1000000, -1000000, 0);
        // What is not changed in the copy is not merged at all.
        rule("last", 5, 7, 5, 7, 0);
        rule("first", 5, 7, 5, 7, 0);
        rule("max", 5, 5, 5, 5, 0);
        rule("bits", 5, 2, 5, 2, 0);
    }

    /** "Ticks are counted from 0; the present tick is 0 at first." */
    private static void firstTick() {
        Due.is("tick of a new object", new LeasedTree().tick(), 0);
        LeasedTree x = Worlds.plain();
        Due.is("tick of a setup", x.tick(), 0);
        Due.is("end of a lease from tick 0", x.lease(0, 1, 1, false), 1);
        x.advance(1);
        Due.is("tick after one", x.tick(), 1);
    }

    /** "There are at most 5 clients, numbered from 0." */
    private static void fiveClients() {
        Twins.Recipe five = () -> {
            LeasedTree x = one("sum", 5);
            x.lease(4, 0, 9, false);
            return x;
        };
        LeasedTree x = five.make();
        Due.is("client 4: lease", x.leased(4, 0), 0);
        Due.is("client 4: setField", x.setField(4, 1, 0, 7), 5);
        Due.is("client 4: blockers", x.blockers(0, 1, true), 16);
        Due.is("client 0: lease", x.lease(0, 1, 9, false), 9);
        Due.is("client 0: blockers", x.blockers(4, 1, true), 1);
        for (int c : new int[] {5, -1, LEAST, MOST}) {
            noClient(five, c);
        }
        noClient(Worlds::plain, 3);
        noClient(LeasedTree::new, 0);
    }

    private static void noClient(Twins.Recipe recipe, int c) {
        Twins.refused("lease of client " + c, Due.INDEX, recipe, y -> y.lease(c, 0, 5, false));
        Twins.refused("renew of client " + c, Due.INDEX, recipe, y -> y.renew(c, 50));
        Twins.refused("setField of client " + c, Due.INDEX, recipe, y -> y.setField(c, 0, 0, 1));
        Twins.refused("addNode of client " + c, Due.INDEX, recipe, y -> y.addNode(c, 0, 99, true));
        Twins.refused("removeNode of client " + c, Due.INDEX, recipe, y -> y.removeNode(c, 0));
        Twins.refused("commit of client " + c, Due.INDEX, recipe, y -> y.commit(c));
        Twins.refused("abandon of client " + c, Due.INDEX, recipe, y -> y.abandon(c));
        Twins.refused("leased of client " + c, Due.INDEX, recipe, y -> y.leased(c, 0));
        Twins.refused("blockers of client " + c, Due.INDEX, recipe, y -> y.blockers(c, 0, false));
        Twins.refused("isInCopy of client " + c, Due.INDEX, recipe, y -> y.isInCopy(c, 0));
        Twins.refused("copyField of client " + c, Due.INDEX, recipe, y -> y.copyField(c, 0, 0));
        Twins.refused("changedCount of client " + c, Due.INDEX, recipe, y -> y.changedCount(c));
        Twins.refused("preview of client " + c, Due.INDEX, recipe, y -> y.preview(c));
        Twins.refused("wouldBe of client " + c, Due.INDEX, recipe, y -> y.wouldBe(c, 0, 0));
        Twins.refused("isFree of client " + c, Due.INDEX, recipe, y -> y.isFree(c, 0));
        Twins.refused("isFree of other client " + c, Due.INDEX, recipe, y -> y.isFree(0, c));
        Twins.refused("isFree of twice client " + c, Due.INDEX, recipe, y -> y.isFree(c, c));
    }

    /** "A client has at most one lease". */
    private static void oneLeaseForAClient() {
        Twins.refused("lease of the same node again", Due.STATE, Worlds::leased, x -> x.lease(0, 1, 50, false));
        Twins.refused("lease of another node", Due.STATE, Worlds::leased, x -> x.lease(1, 2, 5, false));
        Twins.refused("lease of a node below", Due.STATE, Worlds::leased, x -> x.lease(1, 6, 5, true));
        LeasedTree x = Worlds.leased();
        x.commit(0);
        Due.is("lease after commit", x.lease(0, 2, 3, false), 3);
        x.abandon(0);
        Due.is("lease after abandon", x.lease(0, 2, 3, false), 3);
        x.advance(3);
        Due.is("lease after folding", x.lease(0, 2, 3, true), 6);
        x.undo();
        Due.is("lease after undo", x.lease(0, 1, 4, false), 7);
    }

    /** "Two leases touch each other if one of their nodes is the other one or above it." */
    private static void touching() {
        int[] others = {0, 1, 2, 3, 4, 5, 6};
        // Which nodes touch node 3: the root, 1, itself and 4.
        int[] touch = {1, 1, 0, 1, 1, 0, 0};
        for (int n : others) {
            LeasedTree x = Worlds.plain();
            x.lease(1, 3, 9, true);
            Due.is("blockers of 3 and " + n, x.blockers(0, n, false), 2 * touch[n]);
            if (touch[n] == 0) {
                Due.is("lease beside 3: " + n, x.lease(0, n, 9, true), 9);
            } else {
                Due.fails("lease that touches 3: " + n, Due.STATE, () -> x.lease(0, n, 9, false));
            }
            LeasedTree y = Worlds.plain();
            y.lease(1, n, 9, true);
            Due.is("blockers of " + n + " and 3", y.blockers(0, 3, false), 2 * touch[n]);
        }
    }

    /** "A lease of a client is not possible if it would touch a lease of another client, and one of both is exclusive." */
    private static void exclusiveOrShared() {
        for (int held = 0; held < 2; held++) {
            for (int wanted = 0; wanted < 2; wanted++) {
                boolean heldExclusive = held == 1;
                boolean wantedExclusive = wanted == 1;
                Twins.Recipe recipe = () -> {
                    LeasedTree x = Worlds.plain();
                    x.lease(2, 1, 9, heldExclusive);
                    return x;
                };
                LeasedTree x = recipe.make();
                boolean stands = heldExclusive || wantedExclusive;
                Due.is("blockers " + held + wanted, x.blockers(0, 4, wantedExclusive), stands ? 4 : 0);
                if (stands) {
                    Twins.refused("lease " + held + wanted, Due.STATE, recipe, y -> y.lease(0, 4, 9, wantedExclusive));
                } else {
                    Due.is("lease " + held + wanted, x.lease(0, 4, 9, false), 9);
                    Due.is("another lease " + held + wanted, x.lease(1, 0, 9, false), 9);
                }
                Due.is("lease beside " + held + wanted, recipe.make().lease(0, 5, 9, wantedExclusive), 9);
            }
        }
    }

    /** "... a lease of another client": the own one does not stand against it in blockers(). */
    private static void ownLeaseDoesNotBlock() {
        LeasedTree x = Worlds.plain();
        x.lease(0, 1, 9, true);
        Due.is("own exclusive lease", x.blockers(0, 1, true), 0);
        Due.is("own exclusive lease for another", x.blockers(1, 1, false), 1);
    }

    /** "When ticks pass, they pass one by one. At each tick, the leases that end at it are folded". */
    private static void ticksPassOneByOne() {
        LeasedTree x = Worlds.plain();
        x.lease(0, 1, 5, false);
        x.setField(0, 2, 0, 15);
        Due.is("one tick before the end", x.advance(4), 0);
        Due.is("one tick before the end: held", x.leased(0, 1), 5);
        Due.is("one tick before the end: trunk", x.field(2, 0), 10);
        Due.is("at the end", x.advance(1), 1);
        Due.is("at the end: not held", x.leased(0, 1), -1);
        Due.is("at the end: trunk", x.field(2, 0), 15);
        Due.is("after the end", x.advance(1), 0);
        LeasedTree y = Worlds.plain();
        y.lease(0, 1, 1, false);
        Due.is("lease of one tick", y.advance(1), 1);
        LeasedTree z = Worlds.plain();
        z.lease(0, 1, 100, false);
        Due.is("lease of 100 ticks, after 99", z.advance(99), 0);
        Due.is("lease of 100 ticks, after 100", z.advance(1), 1);
        LeasedTree v = Worlds.plain();
        v.lease(0, 1, 5, false);
        v.renew(0, 6);
        Due.is("renewed lease at its old end", v.advance(5), 0);
        Due.is("renewed lease at its new end", v.advance(1), 1);
        LeasedTree w = Worlds.plain();
        w.lease(0, 1, 6, false);
        w.lease(1, 1, 5, false);
        w.setField(0, 2, 2, 1);
        w.setField(1, 2, 2, 2);
        Due.is("two ends in one call", w.advance(200), 2);
        Due.is("the later end is merged last", w.field(2, 2), 1);
    }

    /** "in the order of the clients' numbers: each is merged as by commit()". */
    private static void foldedInTheOrderOfClients() {
        LeasedTree x = one("first", 5);
        for (int c = 4; c >= 0; c--) {
            x.lease(c, 1, 3, false);
            x.setField(c, 1, 0, 100 + c);
        }
        Due.is("five leases folded", x.advance(3), 5);
        Due.is("the first client's value", x.field(1, 0), 100);
        Due.is("the others' conflicts", x.conflictCount(), 4);
        for (int i = 0; i < 4; i++) {
            Due.is("client of conflict " + i, x.conflict(i, 4), i + 1);
            Due.is("tick of conflict " + i, x.conflict(i, 5), 3);
            Due.is("value of conflict " + i, x.conflict(i, 3), 101 + i);
        }
        Due.is("one change", x.undo(), 7);
        Due.is("folding undone", x.nextEnd(), 3);
        Due.is("folding undone: conflicts", x.conflictCount(), 0);
    }

    private static void foldedLeaseMakesRoom() {
        LeasedTree x = Worlds.plain();
        x.lease(0, 1, 5, true);
        x.advance(4);
        Due.fails("lease before the end of another", Due.STATE, () -> x.lease(1, 0, 5, false));
        x.advance(1);
        Due.is("lease at the end of another", x.lease(1, 0, 5, false), 10);
    }

    /** "its base and its copy are what the trunk has at and below the node: the nodes that are alive, and their fields". */
    private static void baseIsWhatIsAlive() {
        LeasedTree x = Worlds.plain();
        x.lease(1, 0, 50, false);
        x.removeNode(1, 4);
        x.addNode(1, 3, 8, true);
        x.setField(1, 7, 0, 70);
        x.commit(1);
        x.lease(1, 0, 50, false);
        x.addNode(1, 3, 9, true);
        x.lease(0, 1, 50, false);
        int[] in = {0, 1, 1, 1, 0, 0, 0, 1, 0};
        for (int n = 0; n < in.length; n++) {
            int node = n;
            Due.is("in the copy of 1: " + n, x.isInCopy(0, n), in[n] == 1);
            if (in[n] == 0) {
                Due.fails("copyField outside of the copy: " + n, Due.STATE, () -> x.copyField(0, node, 0));
                Due.fails("removeNode outside of the copy: " + n, Due.STATE, () -> x.removeNode(0, node));
            }
        }
        Due.is("copied field", x.copyField(0, 7, 0), 70);
        Due.fails("node 9", Due.INDEX, () -> x.isInCopy(0, 9));
        x.lease(2, 2, 50, false);
        Due.is("copy of a record: itself", x.isInCopy(2, 2), true);
        Due.is("copy of a record: above", x.isInCopy(2, 1), false);
        Due.fails("copy of a record: nothing below", Due.STATE, () -> x.addNode(2, 2, 0, true));
        Due.fails("copy of a record: not to be removed", Due.STATE, () -> x.removeNode(2, 2));
    }

    /** "The base never changes." */
    private static void baseNeverChanges() {
        LeasedTree x = Worlds.plain();
        x.lease(0, 0, 50, false);
        x.lease(1, 0, 50, false);
        x.setField(1, 2, 0, 90);
        x.removeNode(1, 3);
        x.addNode(1, 0, 9, true);
        x.commit(1);
        Due.is("trunk is changed", x.field(2, 0), 90);
        Due.is("base: unchanged", x.changedCount(0), 0);
        Due.is("base: copied field", x.copyField(0, 2, 0), 10);
        Due.is("base: node that is gone", x.isInCopy(0, 4), true);
        Due.is("base: node that came", x.isInCopy(0, 7), false);
        x.setField(0, 2, 0, 90);
        Due.is("changed against the base, not the trunk", x.changedCount(0), 1);
        Due.is("merged against the base: conflicts", x.commit(0), 0);
        Due.is("merged against the base", x.field(2, 0), 170);
    }

    /** "Nodes that are added to a copy get the next number; they are not alive in the trunk", nor in the other copies. */
    private static void addedNodes() {
        LeasedTree x = Worlds.plain();
        x.lease(0, 0, 50, false);
        x.lease(1, 0, 50, false);
        Due.is("the next number", x.addNode(0, 0, 9, false), 7);
        Due.is("the next number in another copy", x.addNode(1, 0, 9, false), 8);
        Due.is("the next number again", x.addNode(0, 7, 9, true), 9);
        x.lease(2, 0, 50, false);
        for (int n = 7; n <= 9; n++) {
            int node = n;
            Due.is("in the trunk: " + n, x.node(n, 3), 0);
            Due.is("in copy 0: " + n, x.isInCopy(0, n), n != 8);
            Due.is("in copy 1: " + n, x.isInCopy(1, n), n == 8);
            Due.is("in a later copy: " + n, x.isInCopy(2, n), false);
            Due.fails("lease of a node that is only in a copy: " + n, Due.STATE, () -> x.lease(2, node, 5, false));
        }
        x.commit(0);
        Due.is("merged: alive", x.node(9, 3), 1);
        Due.is("merged: not in the others", x.isInCopy(1, 9), false);
        Due.fails("merged: no parent in the others", Due.STATE, () -> x.addNode(1, 7, 10, true));
    }

    /** "if the node is in the base, is alive in the copy, and the value is different from that in the base". */
    private static void changedFields() {
        LeasedTree x = Worlds.plain();
        x.lease(0, 0, 50, false);
        Due.is("set to what it is", x.setField(0, 2, 0, 10), 10);
        Due.is("set to what it is: changed", x.changedCount(0), 0);
        x.setField(0, 2, 0, 11);
        Due.is("one more: changed", x.changedCount(0), 1);
        x.setField(0, 2, 0, 9);
        Due.is("one less: changed", x.changedCount(0), 1);
        x.setField(0, 2, 0, 10);
        Due.is("set back: changed", x.changedCount(0), 0);
        x.setField(0, 4, 0, 1);
        x.setField(0, 4, 1, 1);
        x.setField(0, 4, 2, 1);
        Due.is("three fields: changed", x.changedCount(0), 3);
        x.addNode(0, 0, 9, true);
        x.setField(0, 7, 0, 5);
        Due.is("added node: not changed", x.changedCount(0), 3);
        x.removeNode(0, 3);
        Due.is("removed node: not changed", x.changedCount(0), 0);
        Due.is("removed node: abandoned", x.abandon(0), 0);
    }
}
