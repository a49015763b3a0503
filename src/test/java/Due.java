import java.util.NoSuchElementException;

/** What the tests share: due answers, due exceptions, and loading of setup texts. */
final class Due {
    static final Class<? extends Exception> INDEX = IndexOutOfBoundsException.class;
    static final Class<? extends Exception> ARGUMENT = IllegalArgumentException.class;
    static final Class<? extends Exception> STATE = IllegalStateException.class;
    static final Class<? extends Exception> ELEMENT = NoSuchElementException.class;

    private static int wrong;
    private static int asked;

    private Due() {
    }

    interface Call {
        void run();
    }

    static void is(String what, long got, long want) {
        asked++;
        if (got != want) {
            wrong(what + " answered " + got + ", due is " + want);
        }
    }

    static void is(String what, boolean got, boolean want) {
        is(what, got ? 1 : 0, want ? 1 : 0);
    }

    /** The class must be exact, and the exception thrown in the program itself, not in the library. */
    static void fails(String what, Class<? extends Exception> want, Call call) {
        asked++;
        try {
            call.run();
            wrong(what + " threw nothing, due is " + want.getName());
        } catch (RuntimeException e) {
            StackTraceElement[] trace = e.getStackTrace();
            boolean own = trace.length > 0 && trace[0].getClassName().startsWith("LeasedTree");
            if (e.getClass() != want || !own) {
                wrong(what + " threw " + e + ", due is " + want.getName());
            }
        }
    }

    static void wrong(String what) {
        wrong++;
        System.out.println(what);
    }

    /** Ends the test: exit code 1 if an answer was wrong. */
    static void end(String test) {
        System.out.println(test + ": " + asked + " answers, " + wrong + " wrong");
        System.exit(wrong == 0 ? 0 : 1);
    }

    static LeasedTree loaded(String text) {
        LeasedTree x = new LeasedTree();
        put(x, text);
        x.load();
        return x;
    }

    /** Appends a text of characters 1 to 255. */
    static int put(LeasedTree x, String text) {
        int length = 0;
        for (int at = 0; at < text.length(); at += 20) {
            length = x.append(word(text, at), word(text, at + 4), word(text, at + 8), word(text, at + 12),
                    word(text, at + 16));
        }
        return length;
    }

    private static int word(String text, int from) {
        int word = 0;
        for (int i = from; i < from + 4; i++) {
            word = word << 8 | (i < text.length() ? text.charAt(i) & 255 : 0);
        }
        return word;
    }
}
