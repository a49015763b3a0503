/** Promises 1 to 5: a new object, the input buffer and the setup text. */
public final class InputTest {
    public static void main(String[] args) {
        newObject();
        append();
        appendLimit();
        truncate();
        validTexts();
        statementErrors();
        numberErrors();
        nodeErrors();
        valueErrors();
        tooManyStatements();
        load();
        loadReplacesEverything();
        Due.end("InputTest");
    }

    private static void newObject() {
        LeasedTree x = new LeasedTree();
        Due.is("NONE", LeasedTree.NONE, -1);
        Due.is("new: nodeCount", x.nodeCount(), 1);
        Due.is("new: alive", x.node(0, 3), 1);
        Due.is("new: record", x.node(0, 2), 0);
        Due.is("new: fields", x.setup(0), 0);
        Due.is("new: clients", x.setup(1), 0);
        Due.is("new: tick", x.tick(), 0);
        Due.is("new: undoCount", x.undoCount(), 0);
        Due.is("new: conflictCount", x.conflictCount(), 0);
        Due.is("new: buffer", x.append(0, 0, 0, 0, 0), 0);
        Due.is("new: errorPosition", x.errorPosition(), 0);
        Due.fails("new: load", Due.ARGUMENT, x::load);
        Due.fails("new: restore", Due.STATE, x::restore);
        Due.fails("new: undo", Due.STATE, x::undo);
        Due.fails("new: lease", Due.INDEX, () -> x.lease(0, 0, 1, false));
    }

    private static void append() {
        LeasedTree x = new LeasedTree();
        Due.is("append in order", x.append('c' << 24 | 'l' << 16 | 'i' << 8 | 'e', 'n' << 24 | 't' << 16, 0, 0, 0), 6);
        Due.is("append in order: valid", x.errorPosition(), -1);
        Due.is("append skips zeros", x.append(0, ';' << 8, 'f', 'i' << 16, 'e' << 24 | 'l'), 11);
        Due.is("append skips zeros: too early", x.append('d', 0, 0, 0, 0), 12);
        Due.is("append skips zeros: position", x.errorPosition(), 12);
        LeasedTree y = new LeasedTree();
        Due.is("append bytes over 127", y.append(-1, 0x80000000, 0x00ff0080, 0, 0x01020304), 11);
        Due.is("append bytes over 127: position", y.errorPosition(), 0);
    }

    private static void appendLimit() {
        LeasedTree x = new LeasedTree();
        for (int i = 1; i <= 29; i++) {
            Due.is("append to " + 20 * i, x.append(0x20202020, 0x20202020, 0x20202020, 0x20202020, 0x20202020), 20 * i);
        }
        Due.is("append to 599", x.append(0x20202020, 0x20202020, 0x20202020, 0x20202020, 0x00202020), 599);
        Due.fails("append to 601", Due.STATE, () -> x.append(0, 0, 0x20002000, 0, 0));
        Due.fails("append two bytes in a", Due.STATE, () -> x.append(0x20002000, 0, 0, 0, 0));
        Due.fails("append two bytes in b", Due.STATE, () -> x.append(0, 0x00200020, 0, 0, 0));
        Due.fails("append two bytes in d", Due.STATE, () -> x.append(0, 0, 0, 0x20200000, 0));
        Due.fails("append two bytes in e", Due.STATE, () -> x.append(0, 0, 0, 0, 0x00002020));
        Due.fails("append one byte in each", Due.STATE, () -> x.append(1, 1, 1, 1, 1));
        Due.is("append nothing", x.append(0, 0, 0, 0, 0), 599);
        Due.is("append to 600", x.append(0, 0, 0, 0, 0x20), 600);
        Due.is("append nothing at 600", x.append(0, 0, 0, 0, 0), 600);
        Due.fails("append at 600", Due.STATE, () -> x.append(1, 0, 0, 0, 0));
        Due.is("errorPosition at 600", x.errorPosition(), 600);
    }

    private static void truncate() {
        LeasedTree x = new LeasedTree();
        Due.fails("truncate(1) of 0", Due.ARGUMENT, () -> x.truncate(1));
        Due.fails("truncate(-1)", Due.ARGUMENT, () -> x.truncate(-1));
        Due.put(x, "client;cli");
        Due.fails("truncate(11)", Due.ARGUMENT, () -> x.truncate(11));
        Due.fails("truncate(least)", Due.ARGUMENT, () -> x.truncate(Integer.MIN_VALUE));
        Due.fails("truncate(most)", Due.ARGUMENT, () -> x.truncate(Integer.MAX_VALUE));
        Due.is("truncate(10)", x.truncate(10), 10);
        Due.is("errorPosition of 10", x.errorPosition(), 7);
        Due.is("truncate(6)", x.truncate(6), 6);
        Due.is("errorPosition of 6", x.errorPosition(), -1);
        Due.is("append after truncate", Due.put(x, "x"), 7);
        Due.is("errorPosition after append", x.errorPosition(), 0);
    }

    private static void errorAt(String text, int want) {
        LeasedTree x = new LeasedTree();
        Due.put(x, text);
        Due.is("errorPosition of '" + text + "'", x.errorPosition(), want);
        if (want == -1) {
            x.load();
        } else {
            Due.fails("load of '" + text + "'", Due.ARGUMENT, x::load);
            Due.is("buffer after load of '" + text + "'", x.append(0, 0, 0, 0, 0), text.length());
        }
    }

    private static void validTexts() {
        errorAt("client", -1);
        errorAt("  client  ;  client  ", -1);
        errorAt("field sum;field max;field min;field bits;field first;field last", -1);
        errorAt("dir0 5;record1 0005", -1);
        errorAt("dir 0 0;dir 0 999;dir 1 0", -1);
        errorAt("field sum;record 0 5;value 1 0 -1000000;value 1 0 1000000", -1);
        errorAt("field sum;record 0 5;value 1 0-5;value 1 0 - 0000005", -1);
    }

    private static void statementErrors() {
        errorAt("", 0);
        errorAt("   ", 3);
        errorAt(";", 0);
        errorAt("client;", 7);
        errorAt("client ; ", 9);
        errorAt("client;;client", 7);
        errorAt("client client", 7);
        errorAt("client 5", 7);
        errorAt("clients", 0);
        errorAt("slient", 0);
        errorAt("field tum", 6);
        errorAt("field mix", 6);
        errorAt("Client", 0);
        errorAt("client\tclient", 6);
        errorAt("client" + (char) 233, 6);
        errorAt("5", 0);
        errorAt("field", 5);
        errorAt("field ", 6);
        errorAt("field ;", 6);
        errorAt("field sums", 6);
        errorAt("field su", 6);
        errorAt("fieldsum", 0);
        errorAt("field 5", 6);
        errorAt("field Sum", 6);
        errorAt("field sum max", 10);
        errorAt("sum", 0);
    }

    private static void numberErrors() {
        errorAt("dir 0 0000005", -1);
        errorAt("dir 0 00000005", 6);
        errorAt("dir 0000000 5", -1);
        errorAt("dir 00000000 5", 4);
        errorAt("dir 0 1000", 6);
        errorAt("dir 0 5 5", 8);
        errorAt("dir 0 5dir", 7);
        errorAt("dir 0 -5", 6);
        errorAt("dir 0", 5);
        errorAt("dir 0  ", 7);
        errorAt("dir", 3);
        errorAt("dir x", 4);
        errorAt("client 99999999", 7);
    }

    private static void nodeErrors() {
        errorAt("dir 1 5", 4);
        errorAt("dir 0 5;dir 2 5", 12);
        errorAt("dir 0 5;dir 1 5;record 2 5;record 2 5", 36);
        errorAt("record 0 5;dir 1 5", 15);
        errorAt("record 0 5;record 0 5", 20);
        errorAt("record 0 5;dir 0 5", 17);
        errorAt("dir 0 5;dir 0 05", 14);
    }

    private static void valueErrors() {
        String start = "field sum;record 0 5;dir 0 6;";
        errorAt(start + "value 1 0 5", -1);
        errorAt(start + "value 0 0 5", 35);
        errorAt(start + "value 2 0 5", 35);
        errorAt(start + "value 3 0 5", 35);
        errorAt(start + "value 1 1 5", 37);
        errorAt(start + "value 1 1 5;field max", 37);
        errorAt(start + "value 1 0 1000001", 39);
        errorAt(start + "value 1 0 -1000001", 40);
        errorAt(start + "value 1 0 - 1000001", 41);
        errorAt(start + "value 1 0 --5", 40);
        errorAt(start + "value 1 0 +5", 39);
        errorAt(start + "value 1 0 -", 40);
        errorAt(start + "value 1 0 -;", 40);
        errorAt(start + "value 1 0 00000005", 39);
        errorAt(start + "value 1 0 -00000005", 40);
        errorAt(start + "value 1 -0 5", 37);
        errorAt(start + "value 1 0", 38);
        errorAt(start + "value", 34);
        errorAt("value 1 0 5;field sum;record 0 5", 6);
    }

    private static void tooManyStatements() {
        errorAt("field sum;".repeat(6) + "client", -1);
        errorAt("field sum;".repeat(6) + " field sum", 61);
        errorAt("field sum;".repeat(6) + "field x", 60);
        errorAt("client;".repeat(5) + "field sum", -1);
        errorAt("client;".repeat(5) + "client", 35);
        StringBuilder nodes = new StringBuilder("dir 0 0");
        for (int label = 1; label < 59; label++) {
            nodes.append(";record 0 ").append(label);
        }
        String all = nodes.toString().replace("record 0", "dir 0");
        errorAt(all, -1);
        errorAt(all + ";client;client", -1);
        errorAt(all + ";dir 0 100", all.length() + 1);
        errorAt(all + ";record 9", all.length() + 1);
        LeasedTree x = Due.loaded(all);
        Due.is("most nodes", x.nodeCount(), 60);
        Due.is("most nodes: last label", x.node(59, 1), 58);
    }

    private static void load() {
        LeasedTree x = new LeasedTree();
        Due.put(x, "field last;dir 0 7;client;record 1 8;client;value 2 0 -3;value 2 0 4;field first;record 0 3;client;"
                + "value 3 1 1000000;value 3 0 -1000000");
        Due.is("load", x.load(), 4);
        Due.is("load: buffer", x.append(0, 0, 0, 0, 0), 0);
        Due.is("load: fields", x.setup(0), 2);
        Due.is("load: clients", x.setup(1), 3);
        Due.is("load: rule 0", x.rule(0), 5);
        Due.is("load: rule 1", x.rule(1), 4);
        Due.is("load: later value", x.field(2, 0), 4);
        Due.is("load: no value", x.field(2, 1), 0);
        Due.is("load: value", x.field(3, 1), 1000000);
        Due.is("load: negative value", x.field(3, 0), -1000000);
        Due.is("load: directory", x.node(1, 2), 0);
        Due.is("load: record", x.node(2, 2), 1);
        Due.is("load: parent", x.node(2, 0), 1);
        Due.is("load: alive", x.node(2, 3), 1);
    }

    private static void loadReplacesEverything() {
        LeasedTree x = Due.loaded("field first;field first;client;client;record 0 5;dir 0 6;value 1 0 9");
        x.lease(0, 0, 50, false);
        x.lease(1, 0, 50, false);
        x.setField(0, 1, 0, 1);
        x.setField(1, 1, 0, 2);
        x.commit(0);
        x.commit(1);
        x.lease(0, 0, 90, true);
        x.advance(3);
        x.save();
        Due.put(x, "field sum;clients");
        Due.fails("failing load", Due.ARGUMENT, x::load);
        Due.is("failing load: tick", x.tick(), 3);
        Due.is("failing load: fields", x.setup(0), 2);
        Due.is("failing load: rule", x.rule(0), 4);
        Due.is("failing load: lease", x.leased(0, 0), 0);
        Due.is("failing load: undo history", x.undoCount(), 8);
        Due.is("failing load: conflicts", x.conflictCount(), 1);
        Due.is("failing load: saved copy", x.restore(), 3);
        x.renew(0, 91);
        x.truncate(0);
        Due.put(x, "client;field sum;record 0 5");
        Due.is("load again", x.load(), 2);
        Due.is("load again: record", x.node(1, 2), 1);
        Due.is("load again: tick", x.tick(), 0);
        Due.is("load again: fields", x.setup(0), 1);
        Due.is("load again: clients", x.setup(1), 1);
        Due.is("load again: rule", x.rule(0), 0);
        Due.is("load again: value", x.field(1, 0), 0);
        Due.is("load again: lease", x.leased(0, 0), -1);
        Due.is("load again: conflicts", x.conflictCount(), 0);
        Due.is("load again: undo history", x.undoCount(), 0);
        Due.fails("load again: undo", Due.STATE, x::undo);
        Due.fails("load again: saved copy", Due.STATE, x::restore);
        Due.put(x, "client;field sum;dir 0 5;dir 1 5;record 2 5");
        Due.is("third load", x.load(), 4);
        Due.is("third load: directory", x.node(1, 2), 0);
        Due.is("third load: record", x.node(3, 2), 1);
    }
}
