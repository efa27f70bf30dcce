import java.util.Random;

/** Many runs of calls, always the same ones, on the program and on the model: all promises. */
public final class ModelTest {
    private static final int OBJECTS = 12000;
    /** What an object answers after its 512th call is free; a round makes fewer than 50. */
    private static final int MOST_CALLS = 512 - 50;

    private final Random random;
    private final PascalDesk desk = new PascalDesk();
    private final Model model = new Model();
    private final StringBuilder calls = new StringBuilder();
    private boolean same = true;
    private int made;

    private ModelTest(long seed) {
        random = new Random(seed);
    }

    public static void main(String[] args) {
        int wrong = 0;
        for (int i = 0; i < OBJECTS && wrong < 5; i++) {
            ModelTest test = new ModelTest(i);
            test.useObject();
            if (!test.same) {
                wrong++;
                System.out.println("object " + i + ":\n" + test.calls);
            }
        }
        Desk.due("objects unlike the model", wrong, 0);
        Desk.end();
    }

    private void useObject() {
        while (made < MOST_CALLS && same) {
            int kind = random.nextInt(10);
            if (random.nextInt(30) == 0) {
                anyArguments();
            } else if (kind < 4) {
                procedure();
            } else if (kind < 8) {
                runOnce();
            } else if (kind < 9) {
                int i11 = random.nextInt(12) - (random.nextInt(20) == 0 ? 1 : 0);
                double v = random.nextInt(3) == 0 ? random.nextInt(4100) / 2.0 - 1025 : random.nextInt(7) - 1;
                compare("set(" + i11 + ", " + v + ")", () -> { desk.set(i11, v); return 0; }, () -> { model.set(i11, v); return 0; });
            } else {
                long numbers = random.nextLong();
                int n = random.nextInt(18);
                compare("tape(" + numbers + ", " + n + ")", () -> { desk.tape(numbers, n); return 0; }, () -> { model.tape(numbers, n); return 0; });
            }
            for (int what = 0; what <= 2; what++) {
                compareCount(what);
            }
        }
    }

    private void procedure() {
        String text = new Texts(random).text();
        for (int i = 0; i < text.length(); i += 8) {
            long eight = Desk.pack(text.substring(i, Math.min(i + 8, text.length())));
            compare("type " + text, () -> desk.type(eight), () -> model.type(eight));
        }
        int k = random.nextInt(40) == 0 ? 4 : random.nextInt(4);
        compare("compile(" + k + ")", () -> desk.compile(k), () -> model.compile(k));
    }

    private void runOnce() {
        int k = random.nextInt(60) == 0 ? -1 : random.nextInt(4);
        int first = random.nextInt(60) == 0 ? 10 : random.nextInt(3);
        int second = random.nextInt(60) == 0 ? 10 : random.nextInt(3);
        compare("run(" + k + ", " + first + ", " + second + ")", () -> desk.run(k, first, second), () -> model.run(k, first, second));
        compareRun();
    }

    /** Arguments from all that there are, most of them out of range. */
    private void anyArguments() {
        long numbers = random.nextLong();
        int i = random.nextInt();
        int small = random.nextInt(13) - 1;
        double v = Double.longBitsToDouble(numbers);
        compare("type(" + numbers + ")", () -> desk.type(numbers), () -> model.type(numbers));
        compare("compile(" + i + ")", () -> desk.compile(i), () -> model.compile(i));
        compare("tape of " + i, () -> { desk.tape(numbers, i); return 0; }, () -> { model.tape(numbers, i); return 0; });
        compare("run(0, " + i + ", 0)", () -> desk.run(0, i, 0), () -> model.run(0, i, 0));
        compare("run(0, 0, " + i + ")", () -> desk.run(0, 0, i), () -> model.run(0, 0, i));
        compare("run(" + i + ", 0, 0)", () -> desk.run(i, 0, 0), () -> model.run(i, 0, 0));
        compare("set(" + small + ", " + v + ")", () -> { desk.set(small, v); return 0; }, () -> { model.set(small, v); return 0; });
        compare("set(" + i + ", 1)", () -> { desk.set(i, 1); return 0; }, () -> { model.set(i, 1); return 0; });
        compare("variable(" + i + ")", () -> desk.variable(i), () -> model.variable(i));
        compare("written(" + i + ")", () -> desk.written(i), () -> model.written(i));
        compareCount(i);
    }

    private void compareCount(int what) {
        compare(null, () -> desk.count(what), () -> model.count(what));
    }

    private void compareRun() {
        for (int what = 3; what <= 10; what++) {
            compareCount(what);
        }
        for (int i = 0; i <= 12; i++) {
            int at = i;
            compare(null, () -> desk.variable(at), () -> model.variable(at));
            compare(null, () -> desk.written(at), () -> model.written(at));
        }
    }

    private void compare(String call, Desk.Call ofDesk, Desk.Call ofModel) {
        made++;
        String got = answer(ofDesk);
        String want = answer(ofModel);
        if (call != null) {
            calls.append(call).append(" -> ").append(want).append('\n');
        }
        if (!got.equals(want) && same) {
            same = false;
            calls.append("here the desk answers ").append(got).append(", the model ").append(want).append('\n');
        }
    }

    private static String answer(Desk.Call call) {
        try {
            return "" + call.answer();
        } catch (RuntimeException e) {
            return e.getClass().getName();
        }
    }

    /** Texts that are mostly right. */
    private static final class Texts {
        private final Random random;
        private final StringBuilder text = new StringBuilder();
        private int depth;

        Texts(Random random) {
            this.random = random;
        }

        String text() {
            body(random.nextInt(20));
            if (random.nextInt(6) == 0) {
                spoil();
            }
            return text.substring(0, Math.min(text.length(), random.nextInt(40) == 0 ? 50 : 48));
        }

        private void spoil() {
            String signs = "abcdrstv01239=<+-*/%()[]{}#!?@&|;WSPxyz.";
            int at = random.nextInt(text.length());
            char sign = signs.charAt(random.nextInt(signs.length()));
            switch (random.nextInt(4)) {
                case 0 -> text.insert(at, sign);
                case 1 -> text.deleteCharAt(at);
                case 2 -> text.setLength(at);
                default -> text.setCharAt(at, sign);
            }
        }

        private char any(String signs) {
            return signs.charAt(random.nextInt(signs.length()));
        }

        private void body(int length) {
            int end = text.length() + length;
            statement();
            while (text.length() < end) {
                text.append(';');
                statement();
            }
        }

        private void block() {
            text.append('{');
            depth++;
            body(random.nextInt(8));
            depth--;
            text.append('}');
        }

        private void statement() {
            int kind = random.nextInt(text.length() > 30 || depth > 4 ? 9 : 13);
            if (kind < 2) {
                text.append(any("abcd")).append('=');
                e(false);
            } else if (kind < 3) {
                text.append(any("rst")).append('=');
                e(random.nextBoolean());
            } else if (kind < 4) {
                text.append("v[");
                e(false);
                text.append("]=");
                e(false);
            } else if (kind < 5) {
                text.append('!');
                e(random.nextBoolean());
            } else if (kind < 8) {
                text.append(any("WS")).append(any("01"));
            } else if (kind < 9) {
                text.append('P').append(any("0123"));
            } else if (kind < 11) {
                text.append(any("?@"));
                e(false);
                block();
            } else {
                text.append('&');
                block();
                text.setLength(text.length() - 1);
                text.append('|');
                depth++;
                body(random.nextInt(8));
                depth--;
                text.append('}');
            }
        }

        /** Reals only where they may be, but for a mistake now and then. */
        private void e(boolean real) {
            boolean any = real || random.nextInt(40) == 0;
            unit(any);
            while (random.nextInt(5) < 2 && text.length() < 40) {
                text.append(any(any ? "++--**/%<=" : "++--**%<="));
                unit(any);
            }
        }

        private void unit(boolean real) {
            int kind = random.nextInt(text.length() > 35 ? 5 : 9);
            if (kind < 2) {
                text.append(random.nextInt(random.nextInt(5) == 0 ? 1100 : 5));
            } else if (kind < 5) {
                text.append(any(real ? "rst" : "abcd"));
            } else if (kind < 6) {
                text.append("v[");
                e(false);
                text.append(']');
            } else if (kind < 8) {
                text.append('(');
                e(real);
                text.append(')');
            } else {
                text.append('#');
                unit(true);
            }
        }
    }
}
