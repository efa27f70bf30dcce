import java.util.NoSuchElementException;

/**
 * A desk for a small Pascal with processes. A text is read once into code for a small machine with
 * a stack; a run then lets its processes go on, one step at a time, as the tape says.
 */
public final class PascalDesk {
    private static final int PROCEDURES = 4;
    private static final int MOST_SEMAPHORE = 9;
    private static final int MOST_TAPE = 16;
    private static final int MOST_SET = 1000;

    private final Reader reader;
    private final Runner runner;
    private int place;

    public PascalDesk() {
        reader = new Reader();
        runner = new Runner();
        place = -1;
    }

    public int type(long eight) throws IllegalArgumentException, IllegalStateException {
        int more = 0;
        for (int shift = 56; shift >= 0; shift -= 8) {
            int sign = byteAt(eight, shift);
            if (sign != 0 && (sign < 33 || sign > 126)) {
                throw new IllegalArgumentException("a byte is not 33 .. 126");
            }
            if (sign != 0) {
                more++;
            }
        }
        if (more > reader.space()) {
            throw new IllegalStateException("the text would be too long");
        }
        for (int shift = 56; shift >= 0; shift -= 8) {
            int sign = byteAt(eight, shift);
            if (sign != 0) {
                reader.append((char) sign);
            }
        }
        return reader.length;
    }

    public int compile(int k) throws IllegalArgumentException {
        if (!isProcedure(k)) {
            throw new IllegalArgumentException("no such procedure");
        }
        int wrong = reader.read();
        if (wrong >= 0) {
            place = wrong;
            throw new IllegalArgumentException("the text can't be read");
        }
        reader.code = runner.exchange(k, reader.code);
        return runner.procedures[k].statements;
    }

    public void tape(long numbers, int n) throws IllegalArgumentException {
        if (n < 1 || n > MOST_TAPE) {
            throw new IllegalArgumentException("a tape has 1 .. 16 numbers");
        }
        runner.tape.become(numbers, n);
    }

    public int run(int k, int first, int second)
            throws IllegalArgumentException,
                    NoSuchElementException,
                    IllegalStateException,
                    ArithmeticException,
                    IndexOutOfBoundsException {
        if (!isProcedure(k) || !isSemaphore(first) || !isSemaphore(second)) {
            throw new IllegalArgumentException("a number is out of range");
        }
        if (!runner.procedures[k].there) {
            throw new NoSuchElementException("the procedure is none");
        }
        return runner.perform(k, first, second);
    }

    public double variable(int i) throws IllegalArgumentException {
        if (!Calculator.isVariable(i)) {
            throw new IllegalArgumentException("no such variable");
        }
        return runner.calculator.values[i];
    }

    public void set(int i, double v) throws IllegalArgumentException {
        // Asked this way round, so that what is no number at all is refused too.
        boolean inRange = v >= -MOST_SET && v <= MOST_SET;
        if (!Calculator.isVariable(i) || !inRange) {
            throw new IllegalArgumentException("a number is out of range");
        }
        if (Calculator.isReal(i)) {
            runner.calculator.values[i] = v;
            return;
        }
        int whole = (int) v;
        if (whole != v) {
            throw new IllegalArgumentException("an integer takes a whole number");
        }
        runner.calculator.values[i] = whole;
    }

    public double written(int i) throws NoSuchElementException {
        if (i < 0 || i >= runner.writings) {
            throw new NoSuchElementException("no such number was written");
        }
        return runner.written[i];
    }

    public int count(int what) {
        switch (what) {
            case 0:
                return place;
            case 1:
                return reader.length;
            case 2:
                return runner.procedureCount();
            case 3:
                return runner.steps;
            case 4:
                return runner.writings;
            case 5:
                return runner.semaphores[0];
            case 6:
                return runner.semaphores[1];
            case 7:
                return runner.born;
            case 8:
                return runner.most;
            case 9:
                return runner.waits;
            default:
                return -1;
        }
    }

    private static int byteAt(long eight, int shift) {
        return (int) (eight >>> shift) & 255;
    }

    private static boolean isProcedure(int k) {
        return k >= 0 && k < PROCEDURES;
    }

    private static boolean isSemaphore(int number) {
        return number >= 0 && number <= MOST_SEMAPHORE;
    }

    /** The orders of the code. Those from SET on end the step that they stand in. */
    private static final class Op {
        static final int END = 0;
        static final int JUMP = 1;
        static final int NUMBER = 2;
        static final int LOAD = 3;
        static final int ROW_PLACE = 4;
        static final int LOAD_ROW = 5;
        static final int WHOLE = 6;
        static final int ADD = 7;
        static final int SUBTRACT = 8;
        static final int MULTIPLY = 9;
        static final int ADD_REAL = 10;
        static final int SUBTRACT_REAL = 11;
        static final int MULTIPLY_REAL = 12;
        static final int DIVIDE = 13;
        static final int REMAINDER = 14;
        static final int LESS = 15;
        static final int EQUAL = 16;
        static final int SET = 17;
        static final int SET_ROW = 18;
        static final int TEST = 19;
        static final int WRITE = 20;
        static final int WAIT = 21;
        static final int SIGNAL = 22;
        static final int CALL = 23;
        static final int BOTH = 24;
    }

    /** A procedure's code: orders, each with one number. */
    private static final class Code {
        /** No character of a text makes more than one order, and one END is put behind. */
        static final int ROOM = Reader.MOST_TEXT + 1;

        private final int[] orders;
        private final int[] numbers;
        private int length;
        int statements;
        boolean there;

        Code() {
            orders = new int[ROOM];
            numbers = new int[ROOM];
        }

        void clear() {
            length = 0;
            statements = 0;
            there = false;
        }

        int next() {
            return length;
        }

        /** Answers where the order stands. */
        int add(int order, int number) {
            int at = length;
            if (at < ROOM) {
                orders[at] = order;
                numbers[at] = number;
                length++;
            }
            return at;
        }

        /** Lets the order at that place point to the next one that is added. */
        void pointHere(int at) {
            if (at >= 0 && at < ROOM) {
                numbers[at] = length;
            }
        }

        int orderAt(int at) {
            return at >= 0 && at < length ? orders[at] : Op.END;
        }

        int numberAt(int at) {
            return at >= 0 && at < length ? numbers[at] : 0;
        }
    }

    /** Holds the text, and reads it, each rule of its grammar by one method. */
    private static final class Reader {
        static final int MOST_TEXT = 48;
        private static final int MOST_DEPTH = 5;
        private static final int MOST_DIGITS = 3;
        private static final char NOTHING = 0;

        private final char[] text;
        int length;
        /** What is read into; not yet a procedure. */
        Code code;
        private int at;
        /** From then on no more characters are taken, so that at stays the place. */
        private boolean refused;
        private boolean typesWrong;

        Reader() {
            text = new char[MOST_TEXT];
            code = new Code();
        }

        int space() {
            return MOST_TEXT - length;
        }

        void append(char sign) {
            if (length < MOST_TEXT) {
                text[length] = sign;
                length++;
            }
        }

        /** Reads the text, which is empty then, into code. Answers its place, or -1 if it's right. */
        int read() {
            code.clear();
            at = 0;
            refused = false;
            typesWrong = false;
            body(0);
            if (at < length) {
                refused = true;
            }
            code.add(Op.END, 0);
            int end = length;
            length = 0;
            if (refused) {
                return at;
            }
            if (typesWrong) {
                return end;
            }
            code.there = true;
            return -1;
        }

        private char peek() {
            return !refused && at < length ? text[at] : NOTHING;
        }

        private boolean takes(char sign) {
            if (peek() != sign) {
                return false;
            }
            at++;
            return true;
        }

        private boolean needs(char sign) {
            if (peek() != sign) {
                refused = true;
                return false;
            }
            at++;
            return true;
        }

        /** Takes a sign that opens one more depth than stands open. */
        private boolean opens(char sign, int depth) {
            if (depth >= MOST_DEPTH) {
                refused = true;
            }
            return needs(sign);
        }

        private int digit(char highest) {
            char sign = peek();
            if (sign < '0' || sign > highest) {
                refused = true;
                return 0;
            }
            at++;
            return sign - '0';
        }

        private void needInteger(boolean real) {
            if (real) {
                typesWrong = true;
            }
        }

        private void body(int depth) {
            statement(depth);
            for (int i = 0; i < MOST_TEXT && takes(';'); i++) {
                statement(depth);
            }
        }

        private void statement(int depth) {
            int simple = simpleVariable(peek());
            code.statements++;
            if (simple >= 0) {
                setting(simple, depth);
            } else if (takes('v')) {
                rowSetting(depth);
            } else if (takes('?')) {
                ifBody(depth);
            } else if (takes('@')) {
                loop(depth);
            } else if (takes('!')) {
                expression(depth);
                code.add(Op.WRITE, 0);
            } else if (takes('W')) {
                code.add(Op.WAIT, digit('1'));
            } else if (takes('S')) {
                code.add(Op.SIGNAL, digit('1'));
            } else if (takes('P')) {
                code.add(Op.CALL, digit('3'));
            } else if (takes('&')) {
                both(depth);
            } else {
                refused = true;
            }
        }

        private void setting(int simple, int depth) {
            at++;
            if (!needs('=')) {
                return;
            }
            boolean real = expression(depth);
            if (!Calculator.isReal(simple)) {
                needInteger(real);
            }
            code.add(Op.SET, simple);
        }

        private void rowSetting(int depth) {
            rowPlace(depth);
            if (!needs('=')) {
                return;
            }
            needInteger(expression(depth));
            code.add(Op.SET_ROW, 0);
        }

        private void ifBody(int depth) {
            needInteger(expression(depth));
            int test = code.add(Op.TEST, 0);
            block(depth);
            code.pointHere(test);
        }

        private void loop(int depth) {
            int start = code.next();
            needInteger(expression(depth));
            int test = code.add(Op.TEST, 0);
            block(depth);
            code.add(Op.JUMP, start);
            code.pointHere(test);
        }

        private void block(int depth) {
            if (opens('{', depth)) {
                body(depth + 1);
                needs('}');
            }
        }

        /** The JUMP behind BOTH is where the process that parts goes on later. */
        private void both(int depth) {
            if (!opens('{', depth)) {
                return;
            }
            int parting = code.add(Op.BOTH, 0);
            int later = code.add(Op.JUMP, 0);
            body(depth + 1);
            code.add(Op.END, 0);
            if (!needs('|')) {
                return;
            }
            code.pointHere(parting);
            body(depth + 1);
            code.add(Op.END, 0);
            code.pointHere(later);
            needs('}');
        }

        /** Like the three below, answers whether the outcome is a real. */
        private boolean expression(int depth) {
            boolean real = sum(depth);
            if (takes('<')) {
                sum(depth);
                code.add(Op.LESS, 0);
                return false;
            }
            if (takes('=')) {
                sum(depth);
                code.add(Op.EQUAL, 0);
                return false;
            }
            return real;
        }

        private boolean sum(int depth) {
            boolean real = term(depth);
            for (int i = 0; i < MOST_TEXT; i++) {
                if (takes('+')) {
                    real |= term(depth);
                    code.add(real ? Op.ADD_REAL : Op.ADD, 0);
                } else if (takes('-')) {
                    real |= term(depth);
                    code.add(real ? Op.SUBTRACT_REAL : Op.SUBTRACT, 0);
                } else {
                    return real;
                }
            }
            return real;
        }

        private boolean term(int depth) {
            boolean real = unit(depth);
            for (int i = 0; i < MOST_TEXT; i++) {
                if (takes('*')) {
                    real |= unit(depth);
                    code.add(real ? Op.MULTIPLY_REAL : Op.MULTIPLY, 0);
                } else if (takes('/')) {
                    unit(depth);
                    code.add(Op.DIVIDE, 0);
                    real = true;
                } else if (takes('%')) {
                    needInteger(unit(depth) || real);
                    code.add(Op.REMAINDER, 0);
                    real = false;
                } else {
                    return real;
                }
            }
            return real;
        }

        private boolean unit(int depth) {
            char sign = peek();
            int simple = simpleVariable(sign);
            if (simple >= 0) {
                at++;
                code.add(Op.LOAD, simple);
                return Calculator.isReal(simple);
            }
            if (isDigit(sign)) {
                number();
                return false;
            }
            if (takes('v')) {
                rowPlace(depth);
                code.add(Op.LOAD_ROW, 0);
                return false;
            }
            if (sign == '(') {
                return inParentheses(depth);
            }
            if (sign == '#') {
                whole(depth);
                return false;
            }
            refused = true;
            return false;
        }

        private void number() {
            int value = 0;
            for (int i = 0; i < MOST_DIGITS && isDigit(peek()); i++) {
                value = value * 10 + digit('9');
            }
            code.add(Op.NUMBER, value);
        }

        private void rowPlace(int depth) {
            if (opens('[', depth)) {
                needInteger(expression(depth + 1));
                code.add(Op.ROW_PLACE, 0);
                needs(']');
            }
        }

        private boolean inParentheses(int depth) {
            if (!opens('(', depth)) {
                return false;
            }
            boolean real = expression(depth + 1);
            needs(')');
            return real;
        }

        private void whole(int depth) {
            if (opens('#', depth) && unit(depth + 1)) {
                code.add(Op.WHOLE, 0);
            }
        }

        private static boolean isDigit(char sign) {
            return sign >= '0' && sign <= '9';
        }

        /** The number of a variable that is none of the row's, or -1. */
        private static int simpleVariable(char sign) {
            if (sign >= 'a' && sign <= 'd') {
                return sign - 'a';
            }
            if (sign >= 'r' && sign <= 't') {
                return sign - 'r' + Calculator.FIRST_REAL;
            }
            return -1;
        }
    }

    /**
     * The variables, and the stack on which numbers are worked out. Integers are held as doubles,
     * which hold every int exactly; so an integer may stand wherever a real is taken.
     */
    private static final class Calculator {
        static final int FIRST_REAL = 4;
        static final int FIRST_OF_ROW = 7;
        private static final int ROW = 4;
        private static final int VARIABLES = FIRST_OF_ROW + ROW;
        private static final int MOST_REAL = 1000000000;

        final double[] values;
        private final double[] stack;
        private int height;

        Calculator() {
            values = new double[VARIABLES];
            stack = new double[Code.ROOM];
        }

        static boolean isVariable(int i) {
            return i >= 0 && i < VARIABLES;
        }

        static boolean isReal(int i) {
            return i >= FIRST_REAL && i < FIRST_OF_ROW;
        }

        /** A statement that threw may have left numbers on the stack. */
        void clear() {
            height = 0;
        }

        double pop() {
            if (height <= 0) {
                return 0.0;
            }
            height--;
            return stack[height];
        }

        void store(int i, double value) {
            if (isVariable(i)) {
                values[i] = value;
            }
        }

        void storeInRow() {
            double value = pop();
            store((int) pop(), value);
        }

        void work(int order, int number) {
            switch (order) {
                case Op.NUMBER:
                    push(number);
                    break;
                case Op.LOAD:
                    load(number);
                    break;
                case Op.ROW_PLACE:
                    push(rowPlace((int) pop()));
                    break;
                case Op.LOAD_ROW:
                    load((int) pop());
                    break;
                case Op.WHOLE:
                    push((int) pop());
                    break;
                default:
                    double right = pop();
                    double left = pop();
                    push(combined(order, left, right));
            }
        }

        private void push(double value) {
            if (height < stack.length) {
                stack[height] = value;
                height++;
            }
        }

        private void load(int i) {
            push(isVariable(i) ? values[i] : 0.0);
        }

        private static int rowPlace(int index) {
            if (index < 0 || index >= ROW) {
                throw new IndexOutOfBoundsException("the row has 0 .. 3");
            }
            return FIRST_OF_ROW + index;
        }

        private static double combined(int order, double left, double right) {
            switch (order) {
                case Op.ADD:
                    return (int) left + (int) right;
                case Op.SUBTRACT:
                    return (int) left - (int) right;
                case Op.MULTIPLY:
                    return (int) left * (int) right;
                case Op.ADD_REAL:
                    return bounded(left + right);
                case Op.SUBTRACT_REAL:
                    return bounded(left - right);
                case Op.MULTIPLY_REAL:
                    return bounded(left * right);
                case Op.DIVIDE:
                    return quotient(left, right);
                case Op.REMAINDER:
                    return remainder((int) left, (int) right);
                case Op.LESS:
                    return left < right ? 1.0 : 0.0;
                default:
                    return left == right ? 1.0 : 0.0;
            }
        }

        private static double quotient(double left, double right) {
            if (right == 0.0) {
                throw new ArithmeticException("/ by 0");
            }
            return bounded(left / right);
        }

        private static int remainder(int left, int right) {
            if (right == 0) {
                throw new ArithmeticException("% by 0");
            }
            return left % right;
        }

        private static double bounded(double outcome) {
            if (outcome > MOST_REAL || outcome < -MOST_REAL) {
                throw new ArithmeticException("a real is too large");
            }
            return outcome;
        }
    }

    /** The numbers that say whose turn it is. */
    private static final class Tape {
        private final int[] numbers;
        private int length;
        private int at;

        Tape() {
            numbers = new int[MOST_TAPE];
            length = 1;
        }

        void become(long halfBytes, int n) {
            for (int i = 0; i < n && i < MOST_TAPE; i++) {
                numbers[i] = (int) (halfBytes >>> (4 * i)) & 15;
            }
            length = n;
        }

        void rewind() {
            at = 0;
        }

        int next() {
            if (at >= length || at >= MOST_TAPE) {
                at = 0;
            }
            int number = numbers[at];
            at++;
            return number;
        }
    }

    /** A process: where it is in the code, and what keeps it from going on. */
    private static final class Strand {
        static final int NONE = 0;
        static final int READY = 1;
        static final int PARTED = 2;
        static final int WAITING = 3;
        private static final int MOST_CALLS = 6;

        int state;
        int parent;
        int children;
        int procedure;
        int at;
        int semaphore;
        /** Who waits with a lower ticket came earlier. */
        int ticket;
        private int calls;
        /** Calls of those that it came from: they count, but it doesn't return from them. */
        private int callsBefore;
        private final int[] callers;
        private final int[] returns;

        Strand() {
            callers = new int[MOST_CALLS];
            returns = new int[MOST_CALLS];
        }

        void begin(int k) {
            start(-1, k, 0, 0);
        }

        void beginPart(Strand from, int number, int first) {
            start(number, from.procedure, first, from.calls);
        }

        private void start(int itsParent, int k, int first, int before) {
            state = READY;
            parent = itsParent;
            children = 0;
            procedure = k;
            at = first;
            calls = before;
            callsBefore = before;
        }

        boolean enters(int k) {
            if (calls < 0 || calls >= MOST_CALLS) {
                return false;
            }
            callers[calls] = procedure;
            returns[calls] = at;
            calls++;
            procedure = k;
            at = 0;
            return true;
        }

        boolean goesBack() {
            if (calls <= callsBefore || calls > MOST_CALLS) {
                return false;
            }
            calls--;
            procedure = callers[calls];
            at = returns[calls];
            return true;
        }
    }

    /** The procedures, and the latest run of one of them. */
    private static final class Runner {
        private static final int MOST_PROCESSES = 5;
        private static final int MOST_STEPS = 200;
        private static final int MOST_WRITTEN = 12;
        private static final int SEMAPHORES = 2;
        private static final int NOBODY = -1;

        final Code[] procedures;
        final Calculator calculator;
        final Tape tape;
        final int[] semaphores;
        final double[] written;
        int writings;
        int steps;
        int born;
        int most;
        int waits;
        private final Strand[] processes;
        private int living;

        Runner() {
            procedures = new Code[PROCEDURES];
            for (int k = 0; k < PROCEDURES; k++) {
                procedures[k] = new Code();
            }
            calculator = new Calculator();
            tape = new Tape();
            semaphores = new int[SEMAPHORES];
            written = new double[MOST_WRITTEN];
            processes = new Strand[MOST_PROCESSES];
            for (int i = 0; i < MOST_PROCESSES; i++) {
                processes[i] = new Strand();
            }
        }

        /** Answers the code that was procedure k, to be used again. */
        Code exchange(int k, Code fresh) {
            Code old = procedures[k];
            procedures[k] = fresh;
            return old;
        }

        int procedureCount() {
            int there = 0;
            for (int k = 0; k < PROCEDURES; k++) {
                if (procedures[k].there) {
                    there++;
                }
            }
            return there;
        }

        int perform(int k, int first, int second) {
            prepare(k, first, second);
            for (int i = 0; i < MOST_STEPS && living > 0; i++) {
                step(whoseTurn());
                leaveWhatIsOver();
            }
            if (living > 0) {
                throw new IllegalStateException("too many steps");
            }
            return steps;
        }

        private void prepare(int k, int first, int second) {
            semaphores[0] = first;
            semaphores[1] = second;
            writings = 0;
            steps = 0;
            waits = 0;
            tape.rewind();
            for (int i = 0; i < MOST_PROCESSES; i++) {
                processes[i].state = Strand.NONE;
            }
            processes[0].begin(k);
            born = 1;
            living = 1;
            most = 1;
        }

        private int whoseTurn() {
            int ready = 0;
            for (int i = 0; i < MOST_PROCESSES; i++) {
                if (processes[i].state == Strand.READY) {
                    ready++;
                }
            }
            if (ready == 0) {
                throw new IllegalStateException("stuck");
            }
            int left = tape.next() % ready;
            int turn = 0;
            for (int i = 0; i < MOST_PROCESSES; i++) {
                if (processes[i].state == Strand.READY) {
                    if (left == 0) {
                        turn = i;
                    }
                    left--;
                }
            }
            return turn;
        }

        private void step(int number) {
            Strand process = processes[number];
            Code code = procedures[process.procedure];
            steps++;
            calculator.clear();
            for (int i = 0; i < Code.ROOM; i++) {
                int order = code.orderAt(process.at);
                int operand = code.numberAt(process.at);
                process.at++;
                if (order >= Op.SET) {
                    finish(number, order, operand);
                    return;
                }
                calculator.work(order, operand);
            }
        }

        private void finish(int number, int order, int operand) {
            Strand process = processes[number];
            switch (order) {
                case Op.SET:
                    calculator.store(operand, calculator.pop());
                    break;
                case Op.SET_ROW:
                    calculator.storeInRow();
                    break;
                case Op.TEST:
                    if (calculator.pop() == 0.0) {
                        process.at = operand;
                    }
                    break;
                case Op.WRITE:
                    write(calculator.pop());
                    break;
                case Op.WAIT:
                    await(process, operand);
                    break;
                case Op.SIGNAL:
                    signal(operand);
                    break;
                case Op.CALL:
                    call(process, operand);
                    break;
                default:
                    part(number, operand);
            }
        }

        private void write(double value) {
            if (writings >= MOST_WRITTEN) {
                throw new IllegalStateException("too much is written");
            }
            written[writings] = value;
            writings++;
        }

        private void await(Strand process, int semaphore) {
            if (semaphores[semaphore] > 0) {
                semaphores[semaphore]--;
                return;
            }
            waits++;
            process.state = Strand.WAITING;
            process.semaphore = semaphore;
            process.ticket = waits;
        }

        private void signal(int semaphore) {
            int first = firstWaiting(semaphore);
            if (first == NOBODY) {
                semaphores[semaphore]++;
                return;
            }
            processes[first].state = Strand.READY;
        }

        private int firstWaiting(int semaphore) {
            int first = NOBODY;
            for (int i = 0; i < MOST_PROCESSES; i++) {
                Strand one = processes[i];
                boolean waiting = one.state == Strand.WAITING && one.semaphore == semaphore;
                if (waiting && (first == NOBODY || one.ticket < processes[first].ticket)) {
                    first = i;
                }
            }
            return first;
        }

        private void call(Strand process, int k) {
            if (!procedures[k].there) {
                throw new NoSuchElementException("the called procedure is none");
            }
            if (!process.enters(k)) {
                throw new IllegalStateException("too many calls in one another");
            }
        }

        private void part(int number, int second) {
            if (living + 2 > MOST_PROCESSES) {
                throw new IllegalStateException("too many processes");
            }
            Strand process = processes[number];
            process.state = Strand.PARTED;
            process.children = 2;
            processes[leastFree()].beginPart(process, number, process.at + 1);
            processes[leastFree()].beginPart(process, number, second);
            born += 2;
            living += 2;
            most = Math.max(most, living);
        }

        private int leastFree() {
            int free = 0;
            for (int i = MOST_PROCESSES - 1; i >= 0; i--) {
                if (processes[i].state == Strand.NONE) {
                    free = i;
                }
            }
            return free;
        }

        /** A step may end the wait of another process too, so all of them are looked at. */
        private void leaveWhatIsOver() {
            for (int i = 0; i < MOST_PROCESSES; i++) {
                goOn(i);
            }
        }

        /** Moves a process behind all that is over; if it is gone then, so perhaps its parent. */
        private void goOn(int number) {
            int who = number;
            for (int i = 0; i < MOST_PROCESSES && who != NOBODY; i++) {
                Strand process = processes[who];
                if (process.state != Strand.READY || findsNext(process)) {
                    return;
                }
                who = leave(process);
            }
        }

        private boolean findsNext(Strand process) {
            for (int i = 0; i < Code.ROOM; i++) {
                Code code = procedures[process.procedure];
                int order = code.orderAt(process.at);
                if (order == Op.JUMP) {
                    process.at = code.numberAt(process.at);
                } else if (order != Op.END) {
                    return true;
                } else if (!process.goesBack()) {
                    return false;
                }
            }
            return false;
        }

        /** Answers the parent, if this was the last part that it was waiting for. */
        private int leave(Strand process) {
            process.state = Strand.NONE;
            living--;
            if (process.parent == NOBODY) {
                return NOBODY;
            }
            Strand parent = processes[process.parent];
            parent.children--;
            if (parent.children > 0) {
                return NOBODY;
            }
            parent.state = Strand.READY;
            return process.parent;
        }
    }
}
