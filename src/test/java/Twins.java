import java.util.ArrayList;
import java.util.List;

/**
 * Two objects made by the same calls: one of them gets a call that is refused, and afterwards both must
 * answer alike, at once, after each number of undos, and after a restore.
 */
final class Twins {
    /** An object is only used for 512 calls, so many questions are put to several pairs of twins. */
    private static final int QUESTIONS_OF_A_PAIR = 250;
    static final Question UNDO_COUNT = LeasedTree::undoCount;

    private Twins() {
    }

    interface Recipe {
        LeasedTree make();
    }

    interface Action {
        void on(LeasedTree x);
    }

    interface Question {
        Object to(LeasedTree x);
    }

    static void refused(String what, Class<? extends Exception> want, Recipe recipe, Action call) {
        LeasedTree one = recipe.make();
        Due.fails(what, want, () -> call.on(one));
        Due.is(what + ": undoCount", one.undoCount(), recipe.make().undoCount());
        Action refusal = x -> answer(y -> {
            call.on(y);
            return 0;
        }, x);
        alike(what + ": at once", recipe, refusal, x -> { });
        for (int undos = 1; undos <= one.undoCount(); undos++) {
            int count = undos;
            alike(what + ": after " + undos + " undos", recipe, refusal, x -> undo(x, count));
        }
        alike(what + ": restored", recipe, refusal, x -> answer(LeasedTree::restore, x));
    }

    /** Whether the recipe answers alike with and without the first action, each time after the second one. */
    private static void alike(String what, Recipe recipe, Action first, Action then) {
        List<Question> questions = questions(recipe.make());
        int different = 0;
        for (int from = 0; from < questions.size(); from += QUESTIONS_OF_A_PAIR) {
            LeasedTree one = recipe.make();
            LeasedTree other = recipe.make();
            first.on(one);
            then.on(one);
            then.on(other);
            for (int i = from; i < Math.min(from + QUESTIONS_OF_A_PAIR, questions.size()); i++) {
                if (!answer(questions.get(i), one).equals(answer(questions.get(i), other))) {
                    different++;
                }
            }
        }
        Due.is(what + ": answers that are different", different, 0);
    }

    private static void undo(LeasedTree x, int count) {
        for (int i = 0; i < count; i++) {
            x.undo();
        }
    }

    static String answer(Question question, LeasedTree x) {
        try {
            return String.valueOf(question.to(x));
        } catch (RuntimeException e) {
            return e.getClass().getName();
        }
    }

    /** What can be asked without a change, one node and one conflict farther than there are. */
    static List<Question> questions(LeasedTree of) {
        List<Question> all = new ArrayList<>();
        all.add(LeasedTree::tick);
        all.add(UNDO_COUNT);
        all.add(LeasedTree::errorPosition);
        all.add(x -> x.append(0, 0, 0, 0, 0));
        all.add(x -> x.setup(0));
        all.add(x -> x.setup(1));
        all.add(LeasedTree::nodeCount);
        all.add(LeasedTree::nextEnd);
        for (int f = 0; f < of.setup(0); f++) {
            int field = f;
            all.add(x -> x.rule(field));
        }
        for (int n = 0; n <= of.nodeCount(); n++) {
            addNode(all, n, of.setup(0));
        }
        for (int c = 0; c < of.setup(1); c++) {
            addClient(all, c, of);
        }
        addConflicts(all, of.conflictCount());
        return all;
    }

    private static void addNode(List<Question> all, int node, int fields) {
        for (int w = 0; w < 5; w++) {
            int what = w;
            all.add(x -> x.node(node, what));
        }
        all.add(x -> x.size(node));
        all.add(x -> x.walk(0, node));
        for (int f = 0; f < fields; f++) {
            int field = f;
            all.add(x -> x.field(node, field));
        }
    }

    private static void addClient(List<Question> all, int client, LeasedTree of) {
        for (int w = 0; w < 3; w++) {
            int what = w;
            all.add(x -> x.leased(client, what));
        }
        all.add(x -> x.changedCount(client));
        all.add(x -> x.preview(client));
        for (int n = 0; n <= of.nodeCount(); n++) {
            int node = n;
            all.add(x -> x.isInCopy(client, node));
            for (int f = 0; f < of.setup(0); f++) {
                int field = f;
                all.add(x -> x.copyField(client, node, field));
                all.add(x -> x.wouldBe(client, node, field));
            }
        }
    }

    private static void addConflicts(List<Question> all, int count) {
        all.add(LeasedTree::conflictCount);
        for (int i = 0; i <= count; i++) {
            for (int w = 0; w < 6; w++) {
                int index = i;
                int what = w;
                all.add(x -> x.conflict(index, what));
            }
        }
    }
}
