/** A desk with the answers that are due: every call that answers another thing is printed. */
final class Desk {
    static final Class<?> BAD = IllegalArgumentException.class;
    static final Class<?> MISSING = java.util.NoSuchElementException.class;
    static final Class<?> STATE = IllegalStateException.class;
    static final Class<?> ARITHMETIC = ArithmeticException.class;
    static final Class<?> INDEX = IndexOutOfBoundsException.class;

    private static int checks = 0;
    private static int wrong = 0;
    /** The sentence of the document that is tried just now, if one was named. */
    private static String sentence = "";

    private static final int MOST_CALLS = 512;

    private final PascalDesk it = new PascalDesk();
    private int calls;
    private String latest = "new object";

    /** A call that may throw. */
    interface Call {
        double answer();
    }

    static void due(String what, double got, double want) {
        checks++;
        if (Double.compare(got, want) != 0) {
            fault(what + " answered " + got + ", due is " + want);
        }
    }

    static void dueThrow(String what, Call call, Class<?> want) {
        checks++;
        String got = "the number ";
        try {
            got += call.answer();
        } catch (RuntimeException e) {
            if (e.getClass() == want) {
                return;
            }
            got = e.getClass().getName();
        }
        fault(what + " answered " + got + ", due is " + want.getName());
    }

    static void fault(String what) {
        wrong++;
        System.out.println(sentence + what);
    }

    static void names(String words) {
        sentence = words.isEmpty() ? "" : "[" + words + "] ";
    }

    static int checks() {
        return checks;
    }

    /** To be called last in each test. */
    static void end() {
        System.out.println(checks + " checks, " + wrong + " wrong");
        if (wrong != 0 || checks == 0) {
            System.exit(1);
        }
    }

    static long pack(String atMostEight) {
        long eight = 0;
        for (int i = 0; i < atMostEight.length(); i++) {
            eight = eight << 8 | atMostEight.charAt(i);
        }
        return eight;
    }

    /** To be asked for once a call: what an object answers after its 512th is free, so no test may ask. */
    PascalDesk it() {
        calls++;
        if (calls == MOST_CALLS + 1) {
            fault(told("this test makes more than 512 calls of one object"));
        }
        return it;
    }

    private String told(String call) {
        return "after " + latest + ": " + call;
    }

    Desk types(String text) {
        for (int i = 0; i < text.length(); i += 8) {
            it().type(pack(text.substring(i, Math.min(i + 8, text.length()))));
        }
        return this;
    }

    /** What is refused adds nothing. */
    Desk refusesToType(String atMostEight, Class<?> kind) {
        int length = it().count(1);
        dueThrow(told("type(" + atMostEight + ")"), () -> it().type(pack(atMostEight)), kind);
        return counts(1, length);
    }

    /** Compiles a right text. */
    Desk has(int k, String text, int statements) {
        types(text);
        latest = text;
        due(told("compile(" + k + ")"), it().compile(k), statements);
        return this;
    }

    /** Compiles a text, however many statements it has. */
    Desk has(int k, String text) {
        types(text);
        latest = text;
        it().compile(k);
        return this;
    }

    /** Compiles a text that can't be read. */
    Desk refuses(String text, int place) {
        types(text);
        latest = text;
        dueThrow(told("compile(0)"), () -> it().compile(0), BAD);
        return counts(0, place);
    }

    Desk runs(int k, int first, int second, int steps) {
        due(told("run(" + k + ", " + first + ", " + second + ")"), it().run(k, first, second), steps);
        return counts(3, steps);
    }

    Desk runs(int k, int steps) {
        return runs(k, 0, 0, steps);
    }

    Desk fails(int k, int first, int second, Class<?> kind) {
        dueThrow(told("run(" + k + ", " + first + ", " + second + ")"), () -> it().run(k, first, second), kind);
        return this;
    }

    Desk fails(int k, Class<?> kind) {
        return fails(k, 0, 0, kind);
    }

    Desk tape(int... numbers) {
        long halfBytes = 0;
        for (int i = numbers.length - 1; i >= 0; i--) {
            halfBytes = halfBytes << 4 | numbers[i];
        }
        it().tape(halfBytes, numbers.length);
        return this;
    }

    Desk sets(int i, double v) {
        it().set(i, v);
        return this;
    }

    Desk refusesToSet(int i, double v) {
        dueThrow(told("set(" + i + ", " + v + ")"), () -> { it().set(i, v); return 0; }, BAD);
        return this;
    }

    /** A call that throws, and leaves every answer that can be asked for as it was. */
    Desk unchangedBy(String what, Call call, Class<?> kind) {
        String before = state();
        dueThrow(told(what), call, kind);
        if (!before.equals(state())) {
            fault(told(what) + " changed " + before + " to " + state());
        }
        return this;
    }

    private String state() {
        StringBuilder all = new StringBuilder();
        for (int what = 0; what <= 9; what++) {
            all.append(it().count(what)).append(' ');
        }
        for (int i = 0; i <= 10; i++) {
            all.append(it().variable(i)).append(' ');
        }
        for (int i = 0; i < it().count(4); i++) {
            all.append(it().written(i)).append(' ');
        }
        return all.toString();
    }

    Desk holds(int i, double want) {
        due(told("variable(" + i + ")"), it().variable(i), want);
        return this;
    }

    Desk counts(int what, int want) {
        due(told("count(" + what + ")"), it().count(what), want);
        return this;
    }

    /** What the latest run wrote, and no more than that. */
    Desk wrote(double... want) {
        counts(4, want.length);
        for (int i = 0; i < want.length && i < it().count(4); i++) {
            due(told("written(" + i + ")"), it().written(i), want[i]);
        }
        dueThrow(told("written(" + want.length + ")"), () -> it().written(want.length), MISSING);
        return this;
    }

    /** The outcome of an E, by writing it. */
    Desk works(String e, double outcome) {
        has(3, "!" + e, 1);
        runs(3, 1);
        return wrote(outcome);
    }

    Desk worksNot(String e, Class<?> kind) {
        has(3, "!" + e, 1);
        fails(3, kind);
        return wrote();
    }
}
