import java.util.ArrayDeque;
import java.util.ArrayList;
import java.util.Arrays;
import java.util.List;
import java.util.NoSuchElementException;
import java.util.TreeMap;

/**
 * The document once more, by other means than the program's: a text is scanned by an automaton with a
 * stack, then cut apart at its weakest operators; a process is a chain of what it still has to do.
 */
final class Model {
    /** Something that is still to be done; EndOfCall is no statement but a mark in the chain. */
    private interface Thing {}

    private record EndOfCall() implements Thing {}

    private record Statement(char kind, int number, Expression index, Expression value, List<Statement> one, List<Statement> two)
            implements Thing {}

    private record Chain(Thing thing, Chain rest) {}

    private record Expression(boolean real, Work work) {}

    private interface Work {
        double outcome(Model model);
    }

    private static final class WrongTypes extends RuntimeException {
        private static final long serialVersionUID = 1;
    }

    private static final class Going {
        Chain todo;
        int callsBefore;
        Going parent;
        int parts;
        boolean waits;
    }

    private static final String NAMES = "abcdrst";

    String text = "";
    private int place = -1;
    private final List<List<Statement>> procedures = new ArrayList<>(Arrays.asList(null, null, null, null));
    private int[] tape = {0};
    private final double[] variables = new double[11];
    private final List<Double> written = new ArrayList<>();
    private int steps;
    private final int[] semaphores = new int[2];
    private int born;
    private int most;
    private int waits;
    private final TreeMap<Integer, Going> goings = new TreeMap<>();
    private final List<ArrayDeque<Going>> queues = List.of(new ArrayDeque<>(), new ArrayDeque<>());

    int type(long eight) {
        StringBuilder more = new StringBuilder();
        for (byte one : java.nio.ByteBuffer.allocate(8).putLong(eight).array()) {
            if (one != 0) {
                more.append((char) (one & 255));
            }
        }
        if (more.chars().anyMatch(c -> c < 33 || c > 126)) {
            throw new IllegalArgumentException();
        }
        if (text.length() + more.length() > 48) {
            throw new IllegalStateException();
        }
        text += more;
        return text.length();
    }

    int compile(int k) {
        if (k < 0 || k > 3) {
            throw new IllegalArgumentException();
        }
        String all = text;
        text = "";
        int wrong = Scan.place(all);
        List<Statement> body = null;
        if (wrong < 0) {
            try {
                body = body(all);
            } catch (WrongTypes e) {
                wrong = all.length();
            }
        }
        if (wrong >= 0) {
            place = wrong;
            throw new IllegalArgumentException();
        }
        procedures.set(k, body);
        return size(body);
    }

    private static int size(List<Statement> body) {
        return body == null ? 0 : body.stream().mapToInt(s -> 1 + size(s.one) + size(s.two)).sum();
    }

    void tape(long numbers, int n) {
        if (n < 1 || n > 16) {
            throw new IllegalArgumentException();
        }
        String hex = String.format("%016x", numbers);
        tape = new int[n];
        for (int i = 0; i < n; i++) {
            tape[i] = Character.digit(hex.charAt(15 - i), 16);
        }
    }

    double variable(int i) {
        if (i < 0 || i > 10) {
            throw new IllegalArgumentException();
        }
        return variables[i];
    }

    void set(int i, double v) {
        boolean real = i == 4 || i == 5 || i == 6;
        if (i < 0 || i > 10 || !(Math.abs(v) <= 1000) || !real && v != Math.rint(v)) {
            throw new IllegalArgumentException();
        }
        variables[i] = real ? v : v + 0.0;
    }

    double written(int i) {
        if (i < 0 || i >= written.size()) {
            throw new NoSuchElementException();
        }
        return written.get(i);
    }

    int count(int what) {
        int there = (int) procedures.stream().filter(p -> p != null).count();
        int[] all = {place, text.length(), there, steps, written.size(), semaphores[0], semaphores[1], born, most, waits};
        return what < 0 || what > 9 ? -1 : all[what];
    }

    int run(int k, int first, int second) {
        if (k < 0 || k > 3 || first < 0 || first > 9 || second < 0 || second > 9) {
            throw new IllegalArgumentException();
        }
        if (procedures.get(k) == null) {
            throw new NoSuchElementException();
        }
        goings.clear();
        queues.forEach(ArrayDeque::clear);
        written.clear();
        semaphores[0] = first;
        semaphores[1] = second;
        steps = 0;
        born = 0;
        most = 0;
        waits = 0;
        bear(null, procedures.get(k), 0);
        while (!goings.isEmpty()) {
            List<Going> ready = goings.values().stream().filter(g -> !g.waits && g.parts == 0).toList();
            if (ready.isEmpty() || steps == 200) {
                throw new IllegalStateException();
            }
            int t = tape[steps % tape.length];
            steps++;
            step(ready.get(t % ready.size()));
        }
        return steps;
    }

    private void bear(Going parent, List<Statement> body, int callsBefore) {
        Going one = new Going();
        one.parent = parent;
        one.todo = before(body, null);
        one.callsBefore = callsBefore;
        int number = 0;
        while (goings.containsKey(number)) {
            number++;
        }
        goings.put(number, one);
        born++;
        most = Math.max(most, goings.size());
    }

    private static Chain before(List<Statement> body, Chain rest) {
        Chain chain = rest;
        for (int i = body.size() - 1; i >= 0; i--) {
            chain = new Chain(body.get(i), chain);
        }
        return chain;
    }

    private void step(Going one) {
        Statement now = (Statement) one.todo.thing;
        Chain rest = one.todo.rest;
        one.todo = switch (now.kind) {
            case '?' -> now.value.work.outcome(this) != 0 ? before(now.one, rest) : rest;
            case '@' -> now.value.work.outcome(this) != 0 ? before(now.one, one.todo) : rest;
            case 'P' -> called(one, now.number, rest);
            default -> {
                act(one, now);
                yield rest;
            }
        };
        tidy(one);
    }

    private Chain called(Going one, int k, Chain rest) {
        if (procedures.get(k) == null) {
            throw new NoSuchElementException();
        }
        if (calls(one) == 6) {
            throw new IllegalStateException();
        }
        return before(procedures.get(k), new Chain(new EndOfCall(), rest));
    }

    private static int calls(Going one) {
        int calls = one.callsBefore;
        for (Chain c = one.todo; c != null; c = c.rest) {
            calls += c.thing instanceof EndOfCall ? 1 : 0;
        }
        return calls;
    }

    private void act(Going one, Statement now) {
        switch (now.kind) {
            case '=' -> variables[now.number] = now.value.work.outcome(this);
            case 'v' -> {
                int place = rowPlace(now.index);
                variables[place] = now.value.work.outcome(this);
            }
            case '!' -> {
                double number = now.value.work.outcome(this);
                if (written.size() == 12) {
                    throw new IllegalStateException();
                }
                written.add(number);
            }
            case 'W' -> {
                if (semaphores[now.number] > 0) {
                    semaphores[now.number]--;
                } else {
                    waits++;
                    one.waits = true;
                    queues.get(now.number).add(one);
                }
            }
            case 'S' -> {
                Going first = queues.get(now.number).poll();
                if (first == null) {
                    semaphores[now.number]++;
                } else {
                    first.waits = false;
                    tidy(first);
                }
            }
            default -> {
                if (goings.size() > 3) {
                    throw new IllegalStateException();
                }
                one.parts = 2;
                bear(one, now.one, calls(one));
                bear(one, now.two, calls(one));
            }
        }
    }

    private void tidy(Going one) {
        if (one.waits || one.parts > 0) {
            return;
        }
        while (one.todo != null && one.todo.thing instanceof EndOfCall) {
            one.todo = one.todo.rest;
        }
        if (one.todo == null) {
            goings.values().remove(one);
            if (one.parent != null) {
                one.parent.parts--;
                tidy(one.parent);
            }
        }
    }

    private int rowPlace(Expression index) {
        double i = index.work.outcome(this);
        if (i < 0 || i > 3) {
            throw new IndexOutOfBoundsException();
        }
        return 7 + (int) i;
    }

    // From here on the text is known to be right but for its types.

    private static List<String> pieces(String all, String separators) {
        List<String> pieces = new ArrayList<>();
        int open = 0;
        int from = 0;
        for (int i = 0; i < all.length(); i++) {
            char c = all.charAt(i);
            open += "([{".indexOf(c) >= 0 ? 1 : ")]}".indexOf(c) >= 0 ? -1 : 0;
            if (open == 0 && separators.indexOf(c) >= 0) {
                pieces.add(all.substring(from, i));
                pieces.add("" + c);
                from = i + 1;
            }
        }
        pieces.add(all.substring(from));
        return pieces;
    }

    private static List<Statement> body(String all) {
        List<Statement> body = new ArrayList<>();
        for (String piece : pieces(all, ";")) {
            if (!piece.equals(";")) {
                body.add(statement(piece));
            }
        }
        return body;
    }

    private static Expression integer(Expression e) {
        if (e.real) {
            throw new WrongTypes();
        }
        return e;
    }

    private static Statement statement(String all) {
        char first = all.charAt(0);
        String rest = all.substring(1);
        switch (first) {
            case '?', '@' -> {
                int brace = all.indexOf('{');
                Expression test = integer(expression(all.substring(1, brace)));
                return new Statement(first, 0, null, test, body(all.substring(brace + 1, all.length() - 1)), null);
            }
            case '!' -> {
                return new Statement('!', 0, null, expression(rest), null, null);
            }
            case 'W', 'S', 'P' -> {
                return new Statement(first, rest.charAt(0) - '0', null, null, null, null);
            }
            case '&' -> {
                List<String> parts = pieces(all.substring(2, all.length() - 1), "|");
                return new Statement('&', 0, null, null, body(parts.get(0)), body(parts.get(2)));
            }
            case 'v' -> {
                String left = pieces(all, "=").get(0);
                Expression index = integer(expression(left.substring(2, left.length() - 1)));
                Expression value = integer(expression(all.substring(left.length() + 1)));
                return new Statement('v', 0, index, value, null, null);
            }
            default -> {
                int number = NAMES.indexOf(first);
                Expression value = expression(rest.substring(1));
                return new Statement('=', number, null, number < 4 ? integer(value) : value, null, null);
            }
        }
    }

    private static Expression expression(String all) {
        List<String> sides = pieces(all, "<=");
        if (sides.size() == 1) {
            return chain(all, "+-");
        }
        Work left = chain(sides.get(0), "+-").work;
        Work right = chain(sides.get(2), "+-").work;
        boolean less = sides.get(1).equals("<");
        return new Expression(false, m -> {
            double l = left.outcome(m);
            double r = right.outcome(m);
            return (less ? l < r : l == r) ? 1 : 0;
        });
    }

    private static Expression chain(String all, String operators) {
        List<String> pieces = pieces(all, operators);
        Expression e = part(pieces.get(0), operators);
        for (int i = 1; i < pieces.size(); i += 2) {
            e = both(e, pieces.get(i).charAt(0), part(pieces.get(i + 1), operators));
        }
        return e;
    }

    private static Expression part(String all, String operators) {
        return operators.equals("+-") ? chain(all, "*/%") : unit(all);
    }

    private static Expression both(Expression l, char operator, Expression r) {
        if (operator == '%') {
            integer(l);
            integer(r);
        }
        boolean real = operator == '/' || l.real || r.real;
        return new Expression(real, m -> {
            double left = l.work.outcome(m);
            double right = r.work.outcome(m);
            if ((operator == '/' || operator == '%') && right == 0) {
                throw new ArithmeticException();
            }
            return real ? realOutcome(left, operator, right) : (int) integerOutcome((long) left, operator, (long) right);
        });
    }

    private static double realOutcome(double left, char operator, double right) {
        double outcome = operator == '+' ? left + right : operator == '-' ? left - right : operator == '*' ? left * right : left / right;
        if (Math.abs(outcome) > 1e9) {
            throw new ArithmeticException();
        }
        return outcome;
    }

    private static long integerOutcome(long left, char operator, long right) {
        return operator == '+' ? left + right : operator == '-' ? left - right : operator == '*' ? left * right : left % right;
    }

    private static Expression unit(String all) {
        char first = all.charAt(0);
        if (Character.isDigit(first)) {
            int number = Integer.parseInt(all);
            return new Expression(false, m -> number);
        }
        if (first == '(') {
            return expression(all.substring(1, all.length() - 1));
        }
        if (first == '#') {
            Expression of = unit(all.substring(1));
            return new Expression(false, m -> (long) Math.max(-2147483648.0, Math.min(2147483647.0, of.work.outcome(m))));
        }
        if (first == 'v') {
            Expression index = integer(expression(all.substring(2, all.length() - 1)));
            return new Expression(false, m -> m.variables[m.rowPlace(index)]);
        }
        int number = NAMES.indexOf(first);
        return new Expression(number >= 4, m -> m.variables[number]);
    }

    /** Finds THE PLACE, types aside. */
    private static final class Scan {
        /** What stands open: T a whole text, I a body of ? or @, 1 and 2 a part of &; an E to the end of a
         * statement (e), before a body (t), in the [ ] of a setting (s) or of a unit (u), in ( ), or behind #. */
        private final ArrayDeque<Character> open = new ArrayDeque<>();
        private final ArrayDeque<Boolean> compared = new ArrayDeque<>();
        private char wants = 'B';
        private int digits;

        static int place(String text) {
            Scan scan = new Scan();
            scan.open.push('T');
            for (int i = 0; i < text.length(); i++) {
                if (!scan.takes(text.charAt(i))) {
                    return i;
                }
            }
            boolean unitIsOver = scan.wants == 'o' && scan.open.peek() == 'e';
            int least = unitIsOver ? 2 : 1;
            boolean over = scan.wants == 'a' || unitIsOver;
            return over && scan.open.size() == least ? -1 : text.length();
        }

        private static boolean in(String set, char c) {
            return set.indexOf(c) >= 0;
        }

        /** wants: B a statement, = the setting's, [ of a setting, { of both, d or p a digit, a what is behind a
         * statement, u a unit, r the [ of a unit, o what is behind a unit. */
        private boolean takes(char c) {
            switch (wants) {
                case 'B':
                    return statement(c);
                case '=':
                    return c == '=' && begin('e');
                case '[':
                    return c == '[' && deeper('s') && begin();
                case '{':
                    return c == '{' && deeper('1') && want('B');
                case 'd':
                    return in("01", c) && want('a');
                case 'p':
                    return in("0123", c) && want('a');
                case 'u':
                    return unit(c);
                case 'r':
                    return c == '[' && deeper('u') && begin();
                case 'o':
                    return behindUnit(c);
                default:
                    return behindStatement(c);
            }
        }

        private boolean want(char next) {
            wants = next;
            return true;
        }

        private boolean begin() {
            compared.push(false);
            return want('u');
        }

        private boolean begin(char what) {
            open.push(what);
            return begin();
        }

        private boolean deeper(char what) {
            long depth = open.stream().filter(o -> in("I12su(#", o)).count();
            open.push(what);
            return depth < 5;
        }

        private boolean statement(char c) {
            if (in(NAMES, c)) {
                return want('=');
            }
            switch (c) {
                case 'v':
                    return want('[');
                case '!':
                    return begin('e');
                case '?', '@':
                    return begin('t');
                case 'W', 'S':
                    return want('d');
                case 'P':
                    return want('p');
                default:
                    return c == '&' && want('{');
            }
        }

        private boolean unit(char c) {
            digits = in("0123456789", c) ? 1 : 0;
            if (digits > 0 || in(NAMES, c)) {
                return unitOver();
            }
            return c == 'v' && want('r') || c == '(' && deeper('(') && begin() || c == '#' && deeper('#') && want('u');
        }

        private boolean unitOver() {
            while (open.peek() == '#') {
                open.pop();
            }
            return want('o');
        }

        private boolean behindUnit(char c) {
            if (digits > 0 && digits < 3 && in("0123456789", c)) {
                digits++;
                return true;
            }
            digits = 0;
            if (in("+-*/%", c)) {
                return want('u');
            }
            if (in("<=", c)) {
                boolean first = !compared.pop();
                compared.push(true);
                return first && want('u');
            }
            compared.pop();
            switch (open.pop()) {
                case 'e':
                    return behindStatement(c);
                case 't':
                    return c == '{' && deeper('I') && want('B');
                case 's':
                    return c == ']' && want('=');
                case 'u':
                    return c == ']' && unitOver();
                default:
                    return c == ')' && unitOver();
            }
        }

        private boolean behindStatement(char c) {
            wants = 'a';
            if (c == ';') {
                return want('B');
            }
            char body = open.pop();
            if (c == '|' && body == '1') {
                open.push('2');
                return want('B');
            }
            return c == '}' && (body == 'I' || body == '2');
        }
    }
}
