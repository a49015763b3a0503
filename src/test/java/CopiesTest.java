/** Promises 32 to 43: what is asked about leases, copies and conflicts. */
public final class CopiesTest {
    private static final String SETUP = "field sum;field first;field last;client;client;client;"
            + "dir 0 1;record 1 2;dir 1 3;record 3 4;dir 0 5;record 5 6;value 2 0 10;value 2 1 20";

    public static void main(String[] args) {
        leased();
        blockers();
        nextEnd();
        isInCopy();
        copyField();
        changedCount();
        preview();
        wouldBe();
        isFreeChecks();
        isFree();
        isFreeOfNodes();
        isFreeOfConflicts();
        conflicts();
        Due.end("CopiesTest");
    }

    private static void leased() {
        LeasedTree x = Due.loaded(SETUP);
        x.advance(3);
        for (int what = 0; what < 3; what++) {
            Due.is("leased without a lease", x.leased(0, what), -1);
        }
        Due.fails("leased(0, 3) without a lease", Due.ARGUMENT, () -> x.leased(0, 3));
        x.lease(0, 3, 7, false);
        x.lease(1, 5, 8, true);
        Due.is("leased: node", x.leased(0, 0), 3);
        Due.is("leased: end", x.leased(0, 1), 10);
        Due.is("leased: shared", x.leased(0, 2), 0);
        Due.is("leased: exclusive", x.leased(1, 2), 1);
        Due.fails("leased(0, -1)", Due.ARGUMENT, () -> x.leased(0, -1));
        Due.fails("leased(3, 3)", Due.INDEX, () -> x.leased(3, 3));
        Due.fails("leased(-1, 0)", Due.INDEX, () -> x.leased(-1, 0));
    }

    private static void blockers() {
        LeasedTree x = Due.loaded(SETUP);
        Due.is("blockers: none", x.blockers(0, 0, true), 0);
        x.lease(0, 3, 9, false);
        x.lease(1, 5, 9, true);
        x.lease(2, 1, 9, false);
        Due.is("blockers: exclusive root", x.blockers(0, 0, true), 6);
        Due.is("blockers: exclusive root of 1", x.blockers(1, 0, true), 5);
        Due.is("blockers: shared root", x.blockers(0, 0, false), 2);
        Due.is("blockers: shared root of 1", x.blockers(1, 0, false), 0);
        Due.is("blockers: exclusive below", x.blockers(1, 4, true), 5);
        Due.is("blockers: exclusive beside", x.blockers(1, 2, true), 4);
        Due.is("blockers: below exclusive", x.blockers(2, 6, false), 2);
        x.removeNode(0, 4);
        x.commit(0);
        Due.is("blockers: dead node", x.blockers(0, 4, true), 4);
        Due.fails("blockers: client", Due.INDEX, () -> x.blockers(3, 0, true));
        Due.fails("blockers: client -1", Due.INDEX, () -> x.blockers(-1, 0, true));
        Due.fails("blockers: node", Due.INDEX, () -> x.blockers(0, 7, true));
        Due.fails("blockers: node -1", Due.INDEX, () -> x.blockers(0, -1, true));
    }

    private static void nextEnd() {
        LeasedTree x = Due.loaded(SETUP);
        Due.fails("nextEnd: none", Due.ELEMENT, x::nextEnd);
        x.lease(0, 0, 9, false);
        x.lease(1, 0, 7, false);
        x.lease(2, 0, 8, false);
        Due.is("nextEnd", x.nextEnd(), 7);
        x.renew(1, 20);
        Due.is("nextEnd: renewed", x.nextEnd(), 8);
        x.advance(10);
        Due.is("nextEnd: later", x.nextEnd(), 20);
        x.abandon(1);
        Due.fails("nextEnd: none any more", Due.ELEMENT, x::nextEnd);
    }

    private static void isInCopy() {
        LeasedTree x = Due.loaded(SETUP);
        Due.fails("isInCopy: no lease", Due.STATE, () -> x.isInCopy(0, 1));
        x.lease(0, 1, 9, false);
        Due.is("isInCopy: leased node", x.isInCopy(0, 1), true);
        Due.is("isInCopy: below", x.isInCopy(0, 4), true);
        Due.is("isInCopy: above", x.isInCopy(0, 0), false);
        Due.is("isInCopy: beside", x.isInCopy(0, 5), false);
        x.removeNode(0, 3);
        Due.is("isInCopy: removed", x.isInCopy(0, 4), false);
        Due.fails("isInCopy: client", Due.INDEX, () -> x.isInCopy(3, 0));
        Due.fails("isInCopy: client -1", Due.INDEX, () -> x.isInCopy(-1, 0));
        Due.fails("isInCopy: node", Due.INDEX, () -> x.isInCopy(1, 7));
        Due.fails("isInCopy: node -1", Due.INDEX, () -> x.isInCopy(0, -1));
    }

    private static void copyField() {
        LeasedTree x = Due.loaded(SETUP);
        Due.fails("copyField: no lease", Due.STATE, () -> x.copyField(0, 2, 0));
        x.lease(0, 1, 9, false);
        x.setField(0, 2, 0, 11);
        Due.is("copyField: changed", x.copyField(0, 2, 0), 11);
        Due.is("copyField: unchanged", x.copyField(0, 2, 1), 20);
        Due.is("copyField: directory", x.copyField(0, 3, 1), 0);
        x.removeNode(0, 3);
        Due.fails("copyField: removed", Due.STATE, () -> x.copyField(0, 4, 0));
        Due.fails("copyField: beside", Due.STATE, () -> x.copyField(0, 6, 0));
        Due.fails("copyField: client", Due.INDEX, () -> x.copyField(3, 2, 0));
        Due.fails("copyField: node", Due.INDEX, () -> x.copyField(1, 7, 0));
        Due.fails("copyField: field", Due.INDEX, () -> x.copyField(1, 2, 3));
        Due.fails("copyField: field -1", Due.INDEX, () -> x.copyField(0, 2, -1));
    }

    private static void changedCount() {
        LeasedTree x = Due.loaded(SETUP);
        Due.fails("changedCount: client", Due.INDEX, () -> x.changedCount(3));
        Due.fails("changedCount: no lease", Due.STATE, () -> x.changedCount(0));
        x.lease(0, 0, 9, false);
        Due.is("changedCount: none", x.changedCount(0), 0);
        x.setField(0, 2, 0, 11);
        x.setField(0, 2, 2, 11);
        x.setField(0, 4, 2, 11);
        x.setField(0, 6, 2, 0);
        Due.is("changedCount: three", x.changedCount(0), 3);
        x.removeNode(0, 3);
        Due.is("changedCount: without a removed node", x.changedCount(0), 2);
        x.setField(0, x.addNode(0, 0, 9, true), 0, 5);
        Due.is("changedCount: without an added node", x.changedCount(0), 2);
    }

    private static void preview() {
        LeasedTree x = Due.loaded(SETUP);
        Due.fails("preview: client", Due.INDEX, () -> x.preview(3));
        Due.fails("preview: client -1", Due.INDEX, () -> x.preview(-1));
        Due.fails("preview: no lease", Due.STATE, () -> x.preview(0));
        x.lease(0, 0, 9, false);
        x.lease(1, 0, 9, false);
        x.setField(0, 2, 1, 1);
        x.setField(0, 4, 1, 1);
        x.removeNode(0, 5);
        x.setField(1, 2, 1, 2);
        x.setField(1, 4, 1, 1);
        x.setField(1, 6, 1, 5);
        Due.is("preview: before", x.preview(0), 0);
        int changes = x.undoCount();
        x.commit(1);
        Due.is("preview: refused value and removal", x.preview(0), 2);
        Due.is("preview again", x.preview(0), 2);
        Due.is("preview: no change", x.undoCount(), changes + 1 > 8 ? 8 : changes + 1);
        Due.is("preview: trunk", x.field(2, 1), 2);
        Due.is("preview: conflicts", x.conflictCount(), 0);
        Due.is("preview: lease", x.leased(0, 0), 0);
        Due.is("commit as in the preview", x.commit(0), 2);
    }

    private static void wouldBe() {
        LeasedTree x = Due.loaded(SETUP);
        Due.fails("wouldBe: client", Due.INDEX, () -> x.wouldBe(3, 2, 0));
        Due.fails("wouldBe: node", Due.INDEX, () -> x.wouldBe(0, 7, 0));
        Due.fails("wouldBe: field", Due.INDEX, () -> x.wouldBe(0, 2, 3));
        Due.fails("wouldBe: field -1", Due.INDEX, () -> x.wouldBe(0, 2, -1));
        Due.fails("wouldBe: no lease", Due.STATE, () -> x.wouldBe(0, 2, 0));
        x.lease(0, 1, 9, false);
        x.lease(1, 1, 9, false);
        x.setField(0, 2, 0, 13);
        x.setField(1, 2, 0, 15);
        x.setField(0, x.addNode(0, 1, 9, true), 2, 99);
        x.addNode(1, 1, 9, true);
        x.removeNode(0, 3);
        Due.is("wouldBe: changed", x.wouldBe(0, 2, 0), 13);
        Due.is("wouldBe: added", x.wouldBe(0, 7, 2), 99);
        Due.is("wouldBe: outside of the copy", x.wouldBe(0, 6, 2), 0);
        Due.is("wouldBe: directory", x.wouldBe(0, 1, 2), 0);
        Due.fails("wouldBe: removed", Due.ELEMENT, () -> x.wouldBe(0, 4, 0));
        Due.fails("wouldBe: added to another copy", Due.ELEMENT, () -> x.wouldBe(0, 8, 0));
        Due.is("wouldBe: not removed by the other", x.wouldBe(1, 4, 0), 0);
        x.commit(1);
        Due.is("wouldBe: sum of both", x.wouldBe(0, 2, 0), 18);
        Due.fails("wouldBe: label is taken", Due.ELEMENT, () -> x.wouldBe(0, 7, 2));
        Due.is("wouldBe: trunk", x.field(2, 0), 15);
        Due.is("wouldBe: size", x.size(3), 2);
    }

    private static void isFreeChecks() {
        LeasedTree x = Due.loaded(SETUP);
        Due.fails("isFree: client", Due.INDEX, () -> x.isFree(3, 3));
        Due.fails("isFree: client, and another", Due.INDEX, () -> x.isFree(3, 0));
        Due.fails("isFree: client -1", Due.INDEX, () -> x.isFree(-1, 0));
        Due.fails("isFree: other", Due.INDEX, () -> x.isFree(0, 3));
        Due.fails("isFree: other -1", Due.INDEX, () -> x.isFree(0, -1));
        Due.fails("isFree: both the same", Due.ARGUMENT, () -> x.isFree(0, 0));
        Due.fails("isFree: no leases", Due.STATE, () -> x.isFree(0, 1));
        x.lease(0, 0, 9, false);
        Due.fails("isFree: one lease", Due.STATE, () -> x.isFree(0, 1));
        Due.fails("isFree: the other lease", Due.STATE, () -> x.isFree(1, 0));
        Due.fails("isFree: both the same, with a lease", Due.ARGUMENT, () -> x.isFree(0, 0));
        x.lease(1, 0, 9, false);
        Due.is("isFree: unchanged", x.isFree(0, 1), true);
    }

    private static void free(String what, LeasedTree x, boolean want) {
        Due.is("isFree: " + what, x.isFree(0, 1), want);
        Due.is("isFree: " + what + ", turned round", x.isFree(1, 0), want);
    }

    private static void isFree() {
        LeasedTree x = Due.loaded(SETUP);
        x.lease(0, 0, 9, false);
        x.lease(1, 0, 9, false);
        x.setField(0, 2, 0, 11);
        x.setField(1, 2, 0, 12);
        free("sums", x, true);
        x.setField(0, 2, 2, 5);
        x.setField(1, 4, 2, 6);
        free("different nodes", x, true);
        x.setField(0, 4, 2, 6);
        free("the same last value", x, true);
        x.setField(0, 4, 2, 7);
        free("different last values", x, false);
        x.setField(0, 4, 2, 0);
        x.setField(0, 4, 1, 3);
        x.setField(1, 4, 1, 3);
        free("the same first value", x, true);
        x.setField(1, 4, 1, 4);
        free("different first values", x, false);
        x.setField(1, 4, 1, 0);
        free("changed back", x, true);
        Due.is("isFree: trunk", x.field(2, 0), 10);
        Due.is("isFree: conflicts", x.conflictCount(), 0);
        Due.is("isFree: lease", x.changedCount(0), 3);
    }

    private static void isFreeOfNodes() {
        LeasedTree x = Due.loaded(SETUP);
        x.lease(0, 0, 9, false);
        x.lease(1, 0, 9, false);
        x.addNode(0, 0, 9, false);
        x.addNode(1, 1, 9, false);
        free("different additions", x, true);
        x.addNode(1, 0, 9, false);
        free("the same label", x, false);
        x.removeNode(1, 9);
        x.removeNode(0, 3);
        free("a removal", x, true);
        x.removeNode(1, 3);
        free("the same removal", x, true);
        LeasedTree y = Due.loaded(SETUP);
        y.lease(0, 0, 9, false);
        y.lease(1, 0, 9, false);
        y.removeNode(0, 3);
        y.setField(1, 4, 2, 5);
        free("a removal and a change", y, false);
        LeasedTree z = Due.loaded(SETUP);
        z.lease(0, 0, 9, false);
        z.lease(1, 0, 9, false);
        z.lease(2, 0, 9, false);
        z.removeNode(0, 3);
        z.setField(1, 4, 2, 5);
        z.removeNode(2, 3);
        z.commit(2);
        free("both too late", z, true);
    }

    private static void isFreeOfConflicts() {
        LeasedTree x = Due.loaded("field first;field first;client;client;client;record 0 1");
        x.lease(0, 0, 9, false);
        x.lease(2, 0, 9, false);
        x.setField(2, 1, 0, 1);
        x.setField(2, 1, 1, 1);
        x.commit(2);
        x.lease(1, 0, 9, false);
        x.removeNode(1, 1);
        x.setField(0, 1, 0, 2);
        // The node ends dead either way; before that, its fields are refused one by one, afterwards as one.
        free("one conflict or one", x, true);
        x.setField(0, 1, 1, 2);
        free("two conflicts or one", x, false);
    }

    private static void conflicts() {
        LeasedTree x = Due.loaded(SETUP);
        Due.is("conflictCount: none", x.conflictCount(), 0);
        Due.fails("conflict(0, 0): none", Due.INDEX, () -> x.conflict(0, 0));
        x.lease(0, 0, 9, false);
        x.lease(1, 0, 9, false);
        x.advance(4);
        x.setField(0, 2, 1, 1);
        x.setField(1, 2, 1, -2);
        x.removeNode(0, 3);
        x.setField(1, 4, 0, 5);
        x.commit(0);
        Due.is("conflicts added", x.commit(1), 2);
        Due.is("conflictCount", x.conflictCount(), 2);
        int[][] parts = {{0, 2, 1, -2, 1, 4}, {1, 4, -1, 0, 1, 4}};
        for (int i = 0; i < 2; i++) {
            for (int what = 0; what < 6; what++) {
                Due.is("conflict(" + i + ", " + what + ")", x.conflict(i, what), parts[i][what]);
            }
        }
        Due.fails("conflict(2, 9)", Due.INDEX, () -> x.conflict(2, 9));
        Due.fails("conflict(-1, 0)", Due.INDEX, () -> x.conflict(-1, 0));
        Due.fails("conflict(0, 6)", Due.ARGUMENT, () -> x.conflict(0, 6));
        Due.fails("conflict(0, -1)", Due.ARGUMENT, () -> x.conflict(0, -1));
        int[] counts = {1, 1, 0, 0, 0};
        for (int kind = 0; kind < 5; kind++) {
            Due.is("conflictsOf(" + kind + ")", x.conflictsOf(kind), counts[kind]);
        }
        Due.fails("conflictsOf(5)", Due.ARGUMENT, () -> x.conflictsOf(5));
        Due.fails("conflictsOf(-1)", Due.ARGUMENT, () -> x.conflictsOf(-1));
    }
}
