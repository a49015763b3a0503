/** Promises 19 to 31: what is asked about the trunk. */
public final class TrunkTest {
    /** 1 and 4 directories of the root, 2 and 5 in 1 (5 a directory), 3 in 5, 6 in 4, 7 in the root. */
    private static final String SETUP = "field sum;field last;client;client;dir 0 50;record 1 9;dir 0 40;"
            + "dir 1 3;record 4 999;record 3 1;record 0 45;record 4 0;"
            + "value 2 0 7;value 5 0 7;value 6 0 -4;value 7 0 7;value 8 0 -1;value 2 1 -5;value 5 1 -6;value 8 1 -5";

    public static void main(String[] args) {
        setup();
        rule();
        node();
        field();
        children();
        find();
        walk();
        size();
        total();
        greatest();
        afterRemoval();
        Due.end("TrunkTest");
    }

    private static void setup() {
        LeasedTree x = Due.loaded(SETUP);
        Due.is("tick", x.tick(), 0);
        Due.is("fields", x.setup(0), 2);
        Due.is("clients", x.setup(1), 2);
        Due.fails("setup(2)", Due.ARGUMENT, () -> x.setup(2));
        Due.fails("setup(-1)", Due.ARGUMENT, () -> x.setup(-1));
        Due.is("nodeCount", x.nodeCount(), 9);
        x.advance(200);
        Due.is("tick later", x.tick(), 200);
    }

    private static void rule() {
        LeasedTree x = Due.loaded("field last;field first;field bits;field min;field max;field sum");
        for (int f = 0; f < 6; f++) {
            Due.is("rule(" + f + ")", x.rule(f), 5 - f);
        }
        Due.fails("rule(6)", Due.INDEX, () -> x.rule(6));
        Due.fails("rule(-1)", Due.INDEX, () -> x.rule(-1));
    }

    private static void parts(LeasedTree x, int node, int... parts) {
        for (int what = 0; what < parts.length; what++) {
            Due.is("node(" + node + ", " + what + ")", x.node(node, what), parts[what]);
        }
    }

    private static void node() {
        LeasedTree x = Due.loaded(SETUP);
        parts(x, 0, -1, -1, 0, 1, 0);
        parts(x, 1, 0, 50, 0, 1, 1);
        parts(x, 5, 4, 999, 1, 1, 3);
        parts(x, 8, 4, 0, 1, 1, 3);
        Due.fails("node(9, 0)", Due.INDEX, () -> x.node(9, 0));
        Due.fails("node(-1, 9)", Due.INDEX, () -> x.node(-1, 9));
        Due.fails("node(0, 5)", Due.ARGUMENT, () -> x.node(0, 5));
        Due.fails("node(0, -1)", Due.ARGUMENT, () -> x.node(0, -1));
    }

    private static void field() {
        LeasedTree x = Due.loaded(SETUP);
        Due.is("field(2, 1)", x.field(2, 1), -5);
        Due.is("field(6, 1)", x.field(6, 1), 0);
        Due.is("field of a directory", x.field(1, 0), 0);
        Due.fails("field(9, 0)", Due.INDEX, () -> x.field(9, 0));
        Due.fails("field(-1, 0)", Due.INDEX, () -> x.field(-1, 0));
        Due.fails("field(2, 2)", Due.INDEX, () -> x.field(2, 2));
        Due.fails("field(2, -1)", Due.INDEX, () -> x.field(2, -1));
    }

    private static void children() {
        LeasedTree x = Due.loaded(SETUP);
        int[] counts = {3, 2, 0, 1, 2, 0, 0, 0, 0};
        for (int n = 0; n < counts.length; n++) {
            Due.is("childCount(" + n + ")", x.childCount(n), counts[n]);
        }
        Due.fails("childCount(9)", Due.INDEX, () -> x.childCount(9));
        Due.fails("childCount(-1)", Due.INDEX, () -> x.childCount(-1));
        Due.is("child(0, 0)", x.child(0, 0), 3);
        Due.is("child(0, 1)", x.child(0, 1), 7);
        Due.is("child(0, 2)", x.child(0, 2), 1);
        Due.is("child(4, 0)", x.child(4, 0), 8);
        Due.fails("child(0, 3)", Due.INDEX, () -> x.child(0, 3));
        Due.fails("child(0, -1)", Due.INDEX, () -> x.child(0, -1));
        Due.fails("child(2, 0)", Due.INDEX, () -> x.child(2, 0));
        Due.fails("child(9, 0)", Due.INDEX, () -> x.child(9, 0));
        Due.fails("child(-1, 0)", Due.INDEX, () -> x.child(-1, 0));
    }

    private static void find() {
        LeasedTree x = Due.loaded(SETUP);
        Due.is("find(0, 45)", x.find(0, 45), 7);
        Due.is("find(4, 0)", x.find(4, 0), 8);
        Due.is("find(4, 999)", x.find(4, 999), 5);
        Due.fails("find(0, 46)", Due.ELEMENT, () -> x.find(0, 46));
        Due.fails("find(0, -1)", Due.ELEMENT, () -> x.find(0, -1));
        Due.fails("find(0, least)", Due.ELEMENT, () -> x.find(0, Integer.MIN_VALUE));
        Due.fails("find(2, 0)", Due.ELEMENT, () -> x.find(2, 0));
        Due.fails("find(9, 0)", Due.INDEX, () -> x.find(9, 0));
        Due.fails("find(-1, -1)", Due.INDEX, () -> x.find(-1, -1));
    }

    private static void walk() {
        LeasedTree x = Due.loaded(SETUP);
        int[] all = {0, 3, 6, 7, 1, 4, 8, 5, 2};
        for (int i = 0; i < all.length; i++) {
            Due.is("walk(0, " + i + ")", x.walk(0, i), all[i]);
        }
        Due.is("walk(1, 0)", x.walk(1, 0), 1);
        Due.is("walk(1, 4)", x.walk(1, 4), 2);
        Due.is("walk(2, 0)", x.walk(2, 0), 2);
        Due.fails("walk(0, 9)", Due.INDEX, () -> x.walk(0, 9));
        Due.fails("walk(1, 5)", Due.INDEX, () -> x.walk(1, 5));
        Due.fails("walk(2, 1)", Due.INDEX, () -> x.walk(2, 1));
        Due.fails("walk(0, -1)", Due.INDEX, () -> x.walk(0, -1));
        Due.fails("walk(9, 0)", Due.INDEX, () -> x.walk(9, 0));
        Due.fails("walk(-1, 0)", Due.INDEX, () -> x.walk(-1, 0));
    }

    private static void size() {
        LeasedTree x = Due.loaded(SETUP);
        int[] sizes = {9, 5, 1, 2, 3, 1, 1, 1, 1};
        for (int n = 0; n < sizes.length; n++) {
            Due.is("size(" + n + ")", x.size(n), sizes[n]);
        }
        Due.fails("size(9)", Due.INDEX, () -> x.size(9));
        Due.fails("size(-1)", Due.INDEX, () -> x.size(-1));
    }

    private static void total() {
        LeasedTree x = Due.loaded(SETUP);
        Due.is("total(0, 0)", x.total(0, 0), 16);
        Due.is("total(1, 0)", x.total(1, 0), 13);
        Due.is("total(0, 1)", x.total(0, 1), -16);
        Due.is("total of a record", x.total(6, 0), -4);
        Due.fails("total(9, 0)", Due.INDEX, () -> x.total(9, 0));
        Due.fails("total(-1, 0)", Due.INDEX, () -> x.total(-1, 0));
        Due.fails("total(0, 2)", Due.INDEX, () -> x.total(0, 2));
        Due.fails("total(0, -1)", Due.INDEX, () -> x.total(0, -1));
    }

    private static void greatest() {
        LeasedTree x = Due.loaded(SETUP + ";dir 0 1");
        Due.is("greatest(0, 0)", x.greatest(0, 0), 2);
        Due.is("greatest(4, 0)", x.greatest(4, 0), 5);
        Due.is("greatest(4, 1)", x.greatest(4, 1), 8);
        Due.is("greatest(1, 1)", x.greatest(1, 1), 2);
        Due.is("greatest(3, 0)", x.greatest(3, 0), 6);
        Due.fails("greatest of no record", Due.ELEMENT, () -> x.greatest(9, 0));
        Due.fails("greatest(10, 0)", Due.INDEX, () -> x.greatest(10, 0));
        Due.fails("greatest(-1, 0)", Due.INDEX, () -> x.greatest(-1, 0));
        Due.fails("greatest(9, 2)", Due.INDEX, () -> x.greatest(9, 2));
        Due.fails("greatest(9, -1)", Due.INDEX, () -> x.greatest(9, -1));
    }

    private static void afterRemoval() {
        LeasedTree x = Due.loaded(SETUP);
        x.lease(0, 0, 9, false);
        x.addNode(0, 0, 41, true);
        x.setField(0, 9, 0, 1000);
        x.removeNode(0, 4);
        Due.is("not yet: size", x.size(0), 9);
        Due.is("not yet: total", x.total(0, 0), 16);
        Due.is("not yet: walk", x.walk(0, 3), 7);
        Due.fails("not yet: find", Due.ELEMENT, () -> x.find(0, 41));
        x.commit(0);
        parts(x, 4, 1, 3, 0, 0, 2);
        parts(x, 5, 4, 999, 1, 0, 3);
        parts(x, 9, 0, 41, 1, 1, 1);
        Due.is("gone: field", x.field(5, 1), -6);
        Due.is("gone: childCount", x.childCount(4), 0);
        Due.is("gone: childCount above", x.childCount(1), 1);
        Due.fails("gone: child", Due.INDEX, () -> x.child(4, 0));
        Due.fails("gone: find", Due.ELEMENT, () -> x.find(1, 3));
        Due.fails("gone: find below", Due.ELEMENT, () -> x.find(4, 0));
        Due.fails("gone: walk", Due.INDEX, () -> x.walk(4, 0));
        Due.is("gone: size", x.size(4), 0);
        Due.is("gone: size above", x.size(1), 2);
        Due.is("gone: total", x.total(4, 0), 0);
        Due.is("gone: total above", x.total(1, 0), 7);
        Due.fails("gone: greatest", Due.ELEMENT, () -> x.greatest(5, 0));
        Due.is("added: greatest", x.greatest(0, 0), 9);
        Due.is("added: walk", x.walk(0, 3), 9);
    }
}
