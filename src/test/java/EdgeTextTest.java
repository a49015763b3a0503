/** The boundaries of the input buffer and the setup text: section 8 and promises 1 to 5, sentence by sentence. */
public final class EdgeTextTest {
    private static final int SPACES = 0x20202020;

    public static void main(String[] args) {
        newObject();
        mostSignificantByteFirst();
        onlyZerosAreSkipped();
        sixHundredBytes();
        refusedAppend();
        truncateBounds();
        refusedTruncate();
        errorPositionChangesNothing();
        loadEmptiesTheBuffer();
        loadReplacesEverything();
        refusedLoad();
        atLeastOneStatement();
        wordsOfLettersAToZ();
        digits();
        onlySpacesStandBetween();
        sevenDigits();
        sixFields();
        fiveClients();
        fiftyNineNodes();
        parentBounds();
        labelBounds();
        valueNodeAndField();
        valueBounds();
        laterValueReplaces();
        textThatEndsTooEarly();
        firstErrorCounts();
        Due.end("EdgeTextTest");
    }

    private static LeasedTree with(String text) {
        LeasedTree x = new LeasedTree();
        Due.put(x, text);
        return x;
    }

    /** The error position, and whether load() agrees and keeps the buffer if it refuses. */
    private static void errorAt(String text, int want) {
        LeasedTree x = with(text);
        Due.is("errorPosition of '" + text + "'", x.errorPosition(), want);
        if (want != LeasedTree.NONE) {
            Due.fails("load of '" + text + "'", Due.ARGUMENT, x::load);
            Due.is("buffer after load of '" + text + "'", x.append(0, 0, 0, 0, 0), text.length());
            Due.is("errorPosition again of '" + text + "'", x.errorPosition(), want);
        } else {
            x.load();
            Due.is("buffer after load of '" + text + "'", x.append(0, 0, 0, 0, 0), 0);
        }
    }

    private static void valid(String text) {
        errorAt(text, LeasedTree.NONE);
    }

    /** "Creates a tree of node 0 alone, without fields and clients, at tick 0, with an empty input buffer." */
    private static void newObject() {
        LeasedTree x = new LeasedTree();
        Due.is("new: nodeCount", x.nodeCount(), 1);
        int[] parts = {-1, -1, 0, 1, 0};
        for (int what = 0; what < 5; what++) {
            Due.is("new: node(0, " + what + ")", x.node(0, what), parts[what]);
        }
        Due.is("new: size", x.size(0), 1);
        Due.is("new: walk", x.walk(0, 0), 0);
        Due.is("new: childCount", x.childCount(0), 0);
        Due.is("new: fields", x.setup(0), 0);
        Due.is("new: clients", x.setup(1), 0);
        Due.is("new: tick", x.tick(), 0);
        Due.is("new: undoCount", x.undoCount(), 0);
        Due.is("new: conflictCount", x.conflictCount(), 0);
        Due.is("new: conflictsOf", x.conflictsOf(0), 0);
        Due.is("new: empty buffer", x.truncate(0), 0);
        Twins.refused("new: node(1, 0)", Due.INDEX, LeasedTree::new, y -> y.node(1, 0));
        Twins.refused("new: rule(0)", Due.INDEX, LeasedTree::new, y -> y.rule(0));
        Twins.refused("new: field(0, 0)", Due.INDEX, LeasedTree::new, y -> y.field(0, 0));
        Twins.refused("new: total(0, 0)", Due.INDEX, LeasedTree::new, y -> y.total(0, 0));
        Twins.refused("new: greatest(0, 0)", Due.INDEX, LeasedTree::new, y -> y.greatest(0, 0));
        Twins.refused("new: child(0, 0)", Due.INDEX, LeasedTree::new, y -> y.child(0, 0));
        Twins.refused("new: walk(0, 1)", Due.INDEX, LeasedTree::new, y -> y.walk(0, 1));
        Twins.refused("new: find(0, 0)", Due.ELEMENT, LeasedTree::new, y -> y.find(0, 0));
        Twins.refused("new: leased(0, 0)", Due.INDEX, LeasedTree::new, y -> y.leased(0, 0));
        Twins.refused("new: lease", Due.INDEX, LeasedTree::new, y -> y.lease(0, 0, 1, false));
        Twins.refused("new: nextEnd", Due.ELEMENT, LeasedTree::new, LeasedTree::nextEnd);
        Twins.refused("new: conflict(0, 0)", Due.INDEX, LeasedTree::new, y -> y.conflict(0, 0));
        Twins.refused("new: load", Due.ARGUMENT, LeasedTree::new, LeasedTree::load);
        Twins.refused("new: truncate(1)", Due.ARGUMENT, LeasedTree::new, y -> y.truncate(1));
        Twins.refused("new: undo", Due.STATE, LeasedTree::new, LeasedTree::undo);
        Twins.refused("new: restore", Due.STATE, LeasedTree::new, LeasedTree::restore);
    }

    private static int[] words(int[] bytes) {
        int[] words = new int[5];
        for (int i = 0; i < 20; i++) {
            words[i / 4] |= bytes[i] << 24 - i % 4 * 8;
        }
        return words;
    }

    private static int append(LeasedTree x, int[] bytes) {
        int[] w = words(bytes);
        return x.append(w[0], w[1], w[2], w[3], w[4]);
    }

    /** "Each parameter holds four bytes, the most significant byte first": bytes 0 to 19. */
    private static void mostSignificantByteFirst() {
        for (int place = 0; place < 20; place++) {
            int[] bytes = new int[20];
            java.util.Arrays.fill(bytes, ' ');
            bytes[place] = '!';
            LeasedTree x = new LeasedTree();
            Due.is("append with ! at " + place, append(x, bytes), 20);
            Due.is("place of ! at " + place, x.errorPosition(), place);
        }
    }

    /** "Bytes with the value 0 are skipped": at every place, and no other value. */
    private static void onlyZerosAreSkipped() {
        for (int place = 0; place < 20; place++) {
            int[] bytes = new int[20];
            java.util.Arrays.fill(bytes, ' ');
            bytes[place] = 0;
            Due.is("append with 0 at " + place, append(new LeasedTree(), bytes), 19);
            int[] one = new int[20];
            one[place] = 255;
            Due.is("append of one byte at " + place, append(new LeasedTree(), one), 1);
        }
        LeasedTree x = new LeasedTree();
        for (int value = 1; value < 256; value++) {
            Due.is("append of byte " + value, x.append(0, 0, value << 8, 0, 0), value);
        }
        Due.is("append of no byte", x.append(0, 0, 0, 0, 0), 255);
    }

    private static LeasedTree spaces(int length) {
        LeasedTree x = new LeasedTree();
        Due.put(x, " ".repeat(length));
        return x;
    }

    /** "Throws IllegalStateException if the buffer would have more than 600 bytes". */
    private static void sixHundredBytes() {
        Due.is("580 + 20", spaces(580).append(SPACES, SPACES, SPACES, SPACES, SPACES), 600);
        Due.is("581 + 19", spaces(581).append(SPACES, SPACES, SPACES, SPACES, SPACES >>> 8), 600);
        Due.is("599 + 1", spaces(599).append(0, 0, 0x2000, 0, 0), 600);
        Due.is("600 + 0", spaces(600).append(0, 0, 0, 0, 0), 600);
        Due.is("errorPosition of 600 spaces", spaces(600).errorPosition(), 600);
        Due.is("truncate of 600", spaces(600).truncate(600), 600);
        LeasedTree x = spaces(594);
        Due.is("word at the end of 600", Due.put(x, "client"), 600);
        Due.is("errorPosition of 600", x.errorPosition(), -1);
        Due.is("load of 600", x.load(), 1);
        Due.is("clients of 600", x.setup(1), 1);
        Due.is("buffer after 600", x.append(SPACES, 0, 0, 0, 0), 4);
        LeasedTree y = spaces(600);
        y.truncate(580);
        Due.is("truncate makes room", y.append(SPACES, SPACES, SPACES, SPACES, SPACES), 600);
    }

    /** "(nothing is appended then)". */
    private static void refusedAppend() {
        Twins.refused("581 + 20", Due.STATE, () -> spaces(581), x -> x.append(SPACES, SPACES, SPACES, SPACES, SPACES));
        Twins.refused("600 + 1 in a", Due.STATE, () -> spaces(600), x -> x.append(1 << 24, 0, 0, 0, 0));
        Twins.refused("600 + 1 in b", Due.STATE, () -> spaces(600), x -> x.append(0, 1 << 16, 0, 0, 0));
        Twins.refused("600 + 1 in c", Due.STATE, () -> spaces(600), x -> x.append(0, 0, 1 << 8, 0, 0));
        Twins.refused("600 + 1 in d", Due.STATE, () -> spaces(600), x -> x.append(0, 0, 0, 1, 0));
        Twins.refused("600 + 1 in e", Due.STATE, () -> spaces(600), x -> x.append(0, 0, 0, 0, -1 << 24));
        Twins.refused("599 + 2", Due.STATE, () -> spaces(599), x -> x.append(0, '!' << 24, 0, 0, '!'));
        Twins.refused("600 + 20", Due.STATE, () -> spaces(600), x -> x.append(-1, -1, -1, -1, -1));
        LeasedTree x = spaces(590);
        Due.fails("590 + 12", Due.STATE, () -> x.append(0x21212121, 0x21212121, 0x21212121, 0, 0));
        Due.is("590 + 10", Due.put(x, "client    "), 600);
        Due.is("bytes of a refused append are not there", x.errorPosition(), -1);
    }

    /** "Throws IllegalArgumentException if length is negative or greater than the present length". */
    private static void truncateBounds() {
        LeasedTree x = with("client;client");
        Due.is("truncate to the same", x.truncate(13), 13);
        Due.is("truncated to the same", x.errorPosition(), -1);
        Due.is("truncate by one", x.truncate(12), 12);
        Due.is("truncated by one", x.errorPosition(), 7);
        Due.is("truncate before the semicolon", x.truncate(6), 6);
        Due.is("truncated before the semicolon", x.errorPosition(), -1);
        Due.is("truncate to 1", x.truncate(1), 1);
        Due.is("truncate to 0", x.truncate(0), 0);
        Due.is("truncate of 0 to 0", x.truncate(0), 0);
        Due.is("truncated to 0", x.errorPosition(), 0);
        Due.is("append at the new end", Due.put(x, "dir 0 5"), 7);
        Due.is("load after truncate", x.load(), 2);
    }

    private static void refusedTruncate() {
        Twins.refused("truncate(14)", Due.ARGUMENT, () -> with("client;client"), x -> x.truncate(14));
        Twins.refused("truncate(-1)", Due.ARGUMENT, () -> with("client;client"), x -> x.truncate(-1));
        Twins.refused("truncate(least)", Due.ARGUMENT, () -> with("client"), x -> x.truncate(Integer.MIN_VALUE));
        Twins.refused("truncate(most)", Due.ARGUMENT, () -> with("client"), x -> x.truncate(Integer.MAX_VALUE));
        Twins.refused("truncate(601)", Due.ARGUMENT, () -> spaces(600), x -> x.truncate(601));
        Twins.refused("truncate(12), shortened", Due.ARGUMENT, () -> {
            LeasedTree x = with("client;client");
            x.truncate(11);
            return x;
        }, x -> x.truncate(12));
        Twins.refused("truncate(1), loaded", Due.ARGUMENT, Worlds::plain, x -> x.truncate(1));
    }

    /** "Checks the input buffer as a setup text": the tree that is there stays. */
    private static void errorPositionChangesNothing() {
        LeasedTree x = Worlds.leased();
        x.truncate(6);
        Due.is("errorPosition of a valid text", x.errorPosition(), -1);
        Due.is("errorPosition: nodes", x.nodeCount(), 9);
        Due.is("errorPosition: fields", x.setup(0), 3);
        Due.is("errorPosition: clients", x.setup(1), 3);
        Due.is("errorPosition: lease", x.leased(0, 0), 1);
        Due.is("errorPosition: field", x.field(2, 0), 10);
        Due.is("errorPosition: undoCount", x.undoCount(), 6);
        Due.is("errorPosition: buffer", x.append(0, 0, 0, 0, 0), 6);
    }

    /** "On success the input buffer becomes empty." */
    private static void loadEmptiesTheBuffer() {
        LeasedTree x = with("client");
        Due.is("load", x.load(), 1);
        Due.is("empty: errorPosition", x.errorPosition(), 0);
        Due.fails("empty: load", Due.ARGUMENT, x::load);
        Due.fails("empty: truncate(1)", Due.ARGUMENT, () -> x.truncate(1));
        Due.is("empty: append", Due.put(x, "x"), 1);
    }

    /** "Replaces everything by the setup: tick 0, no leases and conflicts, no undo history, no saved copy." */
    private static void loadReplacesEverything() {
        LeasedTree x = Worlds.quarrel();
        x.lease(2, 0, 9, true);
        Due.put(x, "client;field bits");
        Due.is("load again", x.load(), 1);
        Due.is("load again: tick", x.tick(), 0);
        Due.is("load again: clients", x.setup(1), 1);
        Due.is("load again: fields", x.setup(0), 1);
        Due.is("load again: rule", x.rule(0), 3);
        Due.is("load again: lease", x.leased(0, 0), -1);
        Due.fails("load again: nextEnd", Due.ELEMENT, x::nextEnd);
        Due.is("load again: conflictCount", x.conflictCount(), 0);
        Due.fails("load again: conflict", Due.INDEX, () -> x.conflict(0, 0));
        Due.is("load again: undoCount", x.undoCount(), 0);
        Due.fails("load again: undo", Due.STATE, x::undo);
        Due.fails("load again: restore", Due.STATE, x::restore);
        Due.fails("load again: node", Due.INDEX, () -> x.node(1, 0));
        Due.fails("load again: field", Due.INDEX, () -> x.field(0, 1));
        Due.fails("load again: client", Due.INDEX, () -> x.leased(1, 0));
        Due.is("load again: lease at tick 0", x.lease(0, 0, 9, true), 9);
        Due.put(x, "record 0 5;dir 0 6;field sum");
        Due.is("load while a lease is held", x.load(), 3);
        Due.is("load while a lease is held: record", x.node(1, 2), 1);
        Due.is("load while a lease is held: directory", x.node(2, 2), 0);
        Due.fails("load while a lease is held: nextEnd", Due.ELEMENT, x::nextEnd);
        LeasedTree y = Worlds.plain();
        Due.is("value before", y.field(2, 0), 10);
        Due.put(y, "field sum;dir 0 5;record 0 6");
        y.load();
        Due.is("no old value", y.field(2, 0), 0);
    }

    /** "Throws IllegalArgumentException if the text is not valid (the input buffer is kept)". */
    private static void refusedLoad() {
        Twins.refused("load of 'client;fiel'", Due.ARGUMENT, Worlds::leased, LeasedTree::load);
        Twins.refused("load of nothing", Due.ARGUMENT, Worlds::quarrel, LeasedTree::load);
        LeasedTree x = Worlds.leased();
        Due.fails("load of 'client;fiel' again", Due.ARGUMENT, x::load);
        Due.put(x, "d max");
        Due.is("a kept buffer can be ended", x.load(), 1);
        Due.is("a kept buffer: rule", x.rule(0), 1);
    }

    /** "there is at least one statement", "separated by semicolons". */
    private static void atLeastOneStatement() {
        errorAt("", 0);
        errorAt(" ", 1);
        errorAt(" ".repeat(599), 599);
        errorAt(";", 0);
        errorAt(" ;client", 1);
        valid("client");
        errorAt("client;", 7);
        errorAt("client; ", 8);
        errorAt("client;;", 7);
        errorAt("client; ;client", 8);
        errorAt("client client", 7);
        errorAt("client,client", 6);
        valid("client;client");
        valid("field sum;client;dir 0 5;record 1 7;value 2 0 3");
    }

    /** "words (maximal runs of letters a to z)". */
    private static void wordsOfLettersAToZ() {
        errorAt("clienta", 0);
        errorAt("clientz", 0);
        errorAt("client`", 6);
        errorAt("client{", 6);
        errorAt("clientA", 6);
        errorAt("clientZ", 6);
        errorAt("Client", 0);
        errorAt("clien", 0);
        errorAt("blient", 0);
        errorAt("cliens", 0);
        errorAt("gield sum", 0);
        errorAt("eir 0 5", 0);
        errorAt("secord 0 5", 0);
        errorAt("field sum;record 0 5;walue 1 0 5", 21);
        errorAt("c lient", 0);
        errorAt("fieldsum", 0);
        errorAt("field suma", 6);
        errorAt("field su", 6);
        errorAt("field sum{", 9);
        errorAt("dirs 0 5", 0);
        errorAt("records 0 5", 0);
        errorAt("values 1 0 5", 0);
        for (String rule : new String[] {"sum", "max", "min", "bits", "first", "last"}) {
            valid("field " + rule);
            valid("field" + " ".repeat(9) + rule);
            errorAt(rule, 0);
            errorAt("field " + rule + "s", 6);
            errorAt("field " + rule.substring(1), 6);
            errorAt("field z" + rule.substring(1), 6);
            errorAt("field " + rule.substring(0, rule.length() - 1), 6);
        }
        errorAt("field and", 6);
        errorAt("field client", 6);
    }

    /** "numbers (maximal runs of digits ...) and single other bytes". */
    private static void digits() {
        valid("dir0 5");
        valid("dir 0 9");
        errorAt("dir 0 9:", 7);
        errorAt("dir 0 9/", 7);
        errorAt("dir 0 :", 6);
        errorAt("dir 0 /", 6);
        errorAt("dir 00", 6);
        errorAt("dir 05", 4);
        errorAt("dir 0x5", 5);
        errorAt("dir 0 5x", 7);
        errorAt("dir 0 5.0", 7);
        errorAt("5", 0);
        errorAt("client5", 6);
        errorAt("dir -0 5", 4);
        errorAt("dir 0 -5", 6);
    }

    /** "Spaces (byte 32) may stand before and after every token." */
    private static void onlySpacesStandBetween() {
        valid("  field  sum  ;  dir  0  5  ;  record  1  7  ;  value  2  0  -  3  ");
        valid("field sum;record 0 5;value 1 0-3");
        for (int other : new int[] {1, 9, 10, 13, 31, 33, 127, 128, 160, 255}) {
            errorAt((char) other + "client", 0);
            errorAt("client" + (char) other, 6);
            errorAt("field" + (char) other + "sum", 5);
        }
    }

    /** "maximal runs of digits, at most seven": where each number of a statement stands. */
    private static void sevenDigits() {
        String start = "field sum;record 0 5;";
        valid("dir 0000000 5");
        errorAt("dir 00000000 5", 4);
        valid("dir 0 0000005");
        errorAt("dir 0 00000005", 6);
        valid(start + "value 0000001 0 5");
        errorAt(start + "value 00000001 0 5", 27);
        valid(start + "value 1 0000000 5");
        errorAt(start + "value 1 00000000 5", 29);
        valid(start + "value 1 0 0000005");
        errorAt(start + "value 1 0 00000005", 31);
        valid(start + "value 1 0 -0000005");
        errorAt(start + "value 1 0 -00000005", 32);
        errorAt(start + "value 1 0 9999999", 31);
        errorAt(start + "value 1 0 99999999999999999999", 31);
        errorAt(start + "value 1 0 4294967296", 31);
        errorAt(start + "value 1 0 5 00000005", 33);
        errorAt("00000005", 0);
    }

    /** "field RULE (at most 6 of these statements ...)", "A statement of which there are too many is an error at its word." */
    private static void sixFields() {
        String five = "field max;".repeat(5);
        valid(five + "field max");
        errorAt(five + "field max;field max", 60);
        errorAt(five + "field max;  field max", 62);
        errorAt(five + "field max;field", 60);
        errorAt(five + "field max;field 5", 60);
        errorAt(five + "field max;fiel", 60);
        valid(five + "field max;client");
        LeasedTree x = Due.loaded(five + "field max;record 0 1;value 1 5 7");
        Due.is("six fields", x.setup(0), 6);
        Due.is("the sixth field", x.field(1, 5), 7);
        errorAt(five + "field max;record 0 1;value 1 6 7", 79);
        errorAt(five + "record 0 1;value 1 5 7", 69);
    }

    /** "client (at most 5)". */
    private static void fiveClients() {
        valid("client;".repeat(4) + "client");
        errorAt("client;".repeat(5) + "client", 35);
        errorAt("client;".repeat(5) + " client;", 36);
        valid("client;".repeat(5) + "field sum");
        Due.is("five clients", Due.loaded("client;".repeat(4) + "client").setup(1), 5);
    }

    private static String nodes(int count) {
        StringBuilder text = new StringBuilder();
        for (int label = 0; label < count; label++) {
            text.append(label > 0 ? ";" : "").append("dir 0 ").append(label);
        }
        return text.toString();
    }

    /** "dir PARENT LABEL and record PARENT LABEL (at most 59 together)". */
    private static void fiftyNineNodes() {
        String most = nodes(59);
        valid(most);
        valid(nodes(58) + ";record 0 58");
        errorAt(most + ";dir 0 59", most.length() + 1);
        errorAt(most + ";record 0 59", most.length() + 1);
        errorAt(most + "; dir", most.length() + 2);
        errorAt(nodes(58) + ";record 0 58;dir 0 59", nodes(58).length() + 13);
        valid(most + ";client");
        LeasedTree x = with(most);
        Due.is("load of 59", x.load(), 60);
        Due.is("the last of 59", x.node(59, 1), 58);
        Due.fails("node 60", Due.INDEX, () -> x.node(60, 0));
    }

    /** "PARENT is the number of a directory that was defined before or 0". */
    private static void parentBounds() {
        valid("dir 0 5");
        errorAt("dir 1 5", 4);
        errorAt("record 1 5", 7);
        valid("dir 0 5;dir 1 5;dir 2 5");
        errorAt("dir 0 5;dir 2 5", 12);
        errorAt("dir 0 5;record 2 5;dir 0 6", 15);
        valid("dir 0 5;record 0 6;record 1 5");
        errorAt("dir 0 5;record 0 6;record 2 5", 26);
        errorAt("record 0 5;dir 1 5", 15);
        errorAt("dir 9999999 5", 4);
        // Sets of nodes may be held in 64 bits: a number is not to be taken for the one 64 lower.
        errorAt("dir 0 5;dir 64 6", 12);
        errorAt("dir 0 5;dir 65 6", 12);
        errorAt("dir client 5", 4);
        errorAt("dir ; 5", 4);
    }

    /** "LABEL is 0 to 999 and not that of another node with this parent". */
    private static void labelBounds() {
        valid("dir 0 0");
        valid("record 0 999");
        errorAt("dir 0 1000", 6);
        errorAt("record 0 1000", 9);
        errorAt("dir 0 9999999", 6);
        errorAt("dir 0 5;dir 0 5", 14);
        errorAt("dir 0 5;record 0 0000005", 17);
        errorAt("record 0 5;dir 0 5", 17);
        errorAt("dir 0 5;dir 1 6;dir 1 6", 22);
        valid("dir 0 5;dir 1 5;record 2 5");
        valid("dir 0 5;dir 0 6;dir 1 7;dir 2 7");
        errorAt("dir 0 x", 6);
        errorAt("dir 0 ;", 6);
        Due.is("label 0", Due.loaded("dir 0 0").node(1, 1), 0);
        Due.is("label 999", Due.loaded("dir 0 999").node(1, 1), 999);
    }

    /** "NODE is the number of a record and FIELD that of a field, both defined before". */
    private static void valueNodeAndField() {
        String start = "field sum;field max;dir 0 5;record 1 5;";
        valid(start + "value 2 0 5");
        valid(start + "value 2 1 5");
        errorAt(start + "value 2 2 5", 47);
        errorAt(start + "value 0 0 5", 45);
        errorAt(start + "value 1 0 5", 45);
        errorAt(start + "value 3 0 5", 45);
        errorAt(start + "value 3 0 5;record 0 6", 45);
        errorAt(start + "value 2 2 5;field min", 47);
        valid(start + "field min;value 2 2 5");
        valid(start + "record 0 6;value 3 0 5");
        errorAt(start + "value 66 0 5", 45);
        errorAt(start + "value 2 64 5", 47);
        errorAt(start + "value 9999999 0 5", 45);
        errorAt(start + "value 2 9999999 5", 47);
        errorAt(start + "value -2 0 5", 45);
        errorAt(start + "value 2 -0 5", 47);
        errorAt(start + "value x 0 5", 45);
        errorAt(start + "value 2 x 5", 47);
        errorAt("record 0 5;value 1 0 5", 19);
        errorAt("field sum;value 1 0 5", 16);
    }

    private static int valueOf(String v) {
        return Due.loaded("field sum;record 0 5;value 1 0 " + v).field(1, 0);
    }

    /** "V is a number up to 1000000, or the sign - and such a number", "for V behind a sign it is the position of the number". */
    private static void valueBounds() {
        String start = "field sum;record 0 5;value 1 0 ";
        Due.is("V 0", valueOf("0"), 0);
        Due.is("V -0", valueOf("-0"), 0);
        Due.is("V 1", valueOf("1"), 1);
        Due.is("V -1", valueOf("-1"), -1);
        Due.is("V 999999", valueOf("999999"), 999999);
        Due.is("V 1000000", valueOf("1000000"), 1000000);
        Due.is("V -1000000", valueOf("-1000000"), -1000000);
        Due.is("V -  1000000", valueOf("-  1000000 "), -1000000);
        errorAt(start + "1000001", 31);
        errorAt(start + "-1000001", 32);
        errorAt(start + "-  1000001", 34);
        errorAt(start + "--1", 32);
        errorAt(start + "+1", 31);
        errorAt(start + "- -1", 33);
        errorAt(start + "-x", 32);
        errorAt(start + "-;", 32);
        errorAt(start + ";", 31);
        errorAt(start + "x", 31);
        errorAt(start + "1-", 32);
        errorAt(start + "1 1", 33);
    }

    /** "a later one replaces an earlier one". */
    private static void laterValueReplaces() {
        Due.is("later value", valueOf("7;value 1 0 -4"), -4);
        Due.is("later value 0", valueOf("7;value 1 0 0"), 0);
        LeasedTree x = Due.loaded("field sum;field sum;record 0 5;record 0 6;value 1 0 7;value 2 0 8;value 1 1 9");
        Due.is("value of another node is none", x.field(1, 0), 7);
        Due.is("value of another field is none", x.field(1, 1), 9);
        Due.is("value of a node without one", x.field(2, 1), 0);
    }

    /** "or the length of the text if the text ends too early". */
    private static void textThatEndsTooEarly() {
        String[] started = {"field", "dir", "dir 0", "record", "record 0", "client;"};
        for (String text : started) {
            errorAt(text, text.length());
            errorAt(text + "   ", text.length() + 3);
        }
        String start = "field sum;record 0 5;";
        for (String text : new String[] {"value", "value 1", "value 1 0", "value 1 0 -", "value 1 0 5;"}) {
            errorAt(start + text, 21 + text.length());
            errorAt(start + text + "  ", 23 + text.length());
        }
        valid(start + "value 1 0 5  ");
        errorAt("client;fiel", 7);
    }

    /** "The error position of a text is the offset of the first token that cannot be accepted". */
    private static void firstErrorCounts() {
        errorAt("client;dir 1 1000;x", 11);
        errorAt("client;dir 0 1000;x", 13);
        errorAt("field mix;dir 9 9", 6);
        errorAt("value 9 9 9999999", 6);
        errorAt("field sum;record 0 5;value 1 9 9999999", 29);
        errorAt("x;client", 0);
    }
}
