/** The edges of what the methods promise, but for type and compile (PlaceEdges). */
final class FaceEdges {
    private FaceEdges() {
    }

    static void check() {
        Sentence.holds("An object is used for at most 512 calls after it has been made; what later calls answer is free.",
                FaceEdges::the512thCall);
        Sentence.holds("No PROCEDURES; the TAPE is one 0.", FaceEdges::newObject);
        Sentence.holds("The TAPE becomes the n (1 .. 16) lowest half-bytes of the number, the lowest first.",
                FaceEdges::halfBytes);
        Sentence.holds("RUNS PROCEDURE k, the SEMAPHORES being first and second (0 .. 9).", FaceEdges::numbersOfRun);
        Sentence.holds("None: Missing.", FaceEdges::noneIsMissing);
        Sentence.holds("Answers the STEPS.", FaceEdges::answersTheSteps);
        Sentence.holds("VARIABLE i: 0 .. 3 a .. d, 4 .. 6 r .. t, 7 .. 10 v's.", FaceEdges::numbersOfVariables);
        Sentence.holds("It becomes v, -1000.0 .. 1000.0, for INTEGERS a whole number.", FaceEdges::setInRange);
        Sentence.holds("Number i (from 0) of what the latest run wrote.", FaceEdges::whatTheLatestRunWrote);
        Sentence.holds("Not there: missing.", FaceEdges::notThere);
        counts();
        Sentence.holds("type: a byte that is bad is seen before more than 48 characters.", FaceEdges::badByteFirst);
        Sentence.holds("run: a number out of range is seen before a PROCEDURE that is none; in both cases nothing changes, "
                + "and the latest run stays the one before.", FaceEdges::latestRunStays);
    }

    private static void counts() {
        Sentence.holds("THE PLACE of the latest text that couldn't be read, -1 if there was none (0);", FaceEdges::latestPlace);
        Sentence.holds("THE TEXT's length (1);", FaceEdges::lengthOfText);
        Sentence.holds("PROCEDURES (2);", FaceEdges::procedures);
        Sentence.holds("of the latest run: STEPS (3), numbers written (4), the SEMAPHORES (5, 6),", FaceEdges::ofTheLatestRun);
        Sentence.holds("PROCESSES that came to be (7), most at a time (8),", FaceEdges::processes);
        Sentence.holds("how often one had to wait (9);", FaceEdges::howOftenOneWaits);
        Sentence.holds("else -1.", FaceEdges::elseMinusOne);
    }

    private static void the512thCall() {
        Desk desk = new Desk();
        for (int i = 1; i <= 127; i++) {
            int k = i & 3;
            desk.it().type(Desk.pack("@1{!a/4}"));
            Desk.due("compile", desk.it().compile(k), 2);
            desk.sets(0, i).fails(k, i % 10, 0, Desk.STATE);
        }
        Desk.due("call 509", desk.it().type(Desk.pack("!a+1;a=3")), 8);
        Desk.due("call 510", desk.it().compile(2), 2);
        Desk.due("call 511", desk.it().run(2, 0, 9), 2);
        Desk.due("call 512", desk.it().written(0), 128);
    }

    private static void newObject() {
        Desk desk = new Desk().counts(2, 0);
        for (int k = 0; k <= 3; k++) {
            desk.fails(k, Desk.MISSING);
        }
        desk.has(0, "&{!1;!2|!3;!4}").runs(0, 5).wrote(1, 2, 3, 4).has(0, "P1").fails(0, Desk.MISSING);
        StepEdges.turns().fails(0, Desk.STATE).wrote(0, 0, 0, 0, 0, 0, 0, 0, 0, 0, 0, 0);
    }

    private static void halfBytes() {
        long numbers = 0x9E61B7D40F3A852CL;
        for (int n = 1; n <= 16; n++) {
            Desk desk = StepEdges.turns();
            desk.it().tape(numbers, n);
            desk.fails(0, Desk.STATE).wrote(StepEdges.twelveTurns(lowest(numbers, n)));
            desk.it().tape(~numbers, n);
            desk.fails(0, Desk.STATE).wrote(StepEdges.twelveTurns(lowest(~numbers, n)));
            // The lengths beyond the edges leave the TAPE as it is.
            for (int wrong : new int[] {0, -1, 17, Integer.MIN_VALUE, Integer.MAX_VALUE}) {
                Desk.dueThrow("tape of " + wrong, () -> { desk.it().tape(numbers, wrong); return 0; }, Desk.BAD);
            }
            desk.fails(0, Desk.STATE).wrote(StepEdges.twelveTurns(lowest(~numbers, n)));
        }
    }

    private static int[] lowest(long numbers, int n) {
        int[] lowest = new int[n];
        for (int i = 0; i < n; i++) {
            lowest[i] = (int) (numbers >>> 4 * i & 15);
        }
        return lowest;
    }

    private static void numbersOfRun() {
        Desk desk = new Desk().has(0, "!7").has(3, "!8");
        desk.runs(0, 1).wrote(7).runs(3, 1).wrote(8);
        for (int number = 0; number <= 9; number++) {
            desk.runs(0, number, 9 - number, 1).counts(5, number).counts(6, 9 - number);
        }
        for (int k : new int[] {-1, 4, Integer.MIN_VALUE, Integer.MAX_VALUE}) {
            desk.fails(k, 0, 0, Desk.BAD).counts(5, 9);
        }
        for (int wrong : new int[] {-1, 10, Integer.MIN_VALUE, Integer.MAX_VALUE}) {
            desk.fails(0, wrong, 0, Desk.BAD).fails(0, 0, wrong, Desk.BAD).fails(0, wrong, wrong, Desk.BAD).counts(5, 9);
        }
    }

    private static void noneIsMissing() {
        for (int k = 0; k <= 3; k++) {
            Desk desk = new Desk().fails(k, Desk.MISSING).fails(k, 9, 9, Desk.MISSING).types("x");
            int at = k;
            Desk.dueThrow("compile of a bad text", () -> desk.it().compile(at), Desk.BAD);
            desk.fails(k, Desk.MISSING).counts(3, 0).has(k, "!7").runs(k, 1).wrote(7);
        }
    }

    private static void answersTheSteps() {
        Desk desk = new Desk().has(0, "a=b;@a{a=a-1;c=a}").has(1, "S0");
        for (int rounds : new int[] {0, 1, 2, 65, 66}) {
            desk.sets(1, rounds).runs(0, 3 * rounds + 2).runs(1, 1);
        }
        desk.sets(1, 67).fails(0, Desk.STATE).counts(3, 200);
    }

    private static void numbersOfVariables() {
        Desk desk = new Desk().has(0, "a=1;b=2;c=3;d=4;r=5;s=6;t=7").has(1, "v[0]=8;v[1]=9;v[2]=10;v[3]=11");
        desk.runs(0, 7).runs(1, 4);
        for (int i = 0; i <= 10; i++) {
            desk.holds(i, i + 1);
        }
        for (int i : new int[] {-1, 11, Integer.MIN_VALUE, Integer.MAX_VALUE}) {
            desk.unchangedBy("variable(" + i + ")", () -> desk.it().variable(i), Desk.BAD);
            desk.unchangedBy("set(" + i + ", 1)", () -> { desk.it().set(i, 1); return 0; }, Desk.BAD);
        }
        for (int i = 0; i <= 10; i++) {
            desk.sets(i, 20 + i);
        }
        desk.has(0, "!a;!b;!c;!d;!r;!s;!t;!v[0];!v[1];!v[2];!v[3]").runs(0, 11);
        desk.wrote(20, 21, 22, 23, 24, 25, 26, 27, 28, 29, 30);
    }

    private static void setInRange() {
        double[] outside = {
            Math.nextUp(1000.0), -Math.nextUp(1000.0), 1001, -1001, 1e300, -1e300, 4294967296.0, -4294967296.0,
            Double.MAX_VALUE, Double.POSITIVE_INFINITY, Double.NEGATIVE_INFINITY, Double.NaN
        };
        double[] between = {
            0.5, -0.5, Math.nextDown(1000.0), -Math.nextDown(1000.0), Math.nextUp(1.0), Double.MIN_VALUE, -Double.MIN_VALUE, 999.5
        };
        for (int i = 0; i <= 10; i++) {
            Desk desk = new Desk();
            for (double whole : new double[] {1000, -1000, 0, 1, -1, 999, -999}) {
                desk.sets(i, whole).holds(i, whole);
            }
            // An int has no -0.0.
            desk.sets(i, -0.0).holds(i, i >= 4 && i <= 6 ? -0.0 : 0.0).sets(i, -999);
            for (double wrong : outside) {
                desk.refusesToSet(i, wrong).holds(i, -999);
            }
            for (double v : between) {
                if (i >= 4 && i <= 6) {
                    desk.sets(i, v).holds(i, v);
                } else {
                    desk.refusesToSet(i, v).holds(i, -999);
                }
            }
        }
    }

    private static void whatTheLatestRunWrote() {
        Desk desk = new Desk().has(0, "!4;!5;!6").has(1, "!7;!v[4]").has(2, "S0").runs(0, 3).wrote(4, 5, 6);
        desk.fails(1, Desk.INDEX).wrote(7).runs(0, 3).wrote(4, 5, 6).runs(2, 1).wrote();
        desk.fails(1, Desk.INDEX).wrote(7).fails(3, Desk.MISSING).wrote(7).fails(4, Desk.BAD).wrote(7);
    }

    private static void notThere() {
        Desk desk = new Desk().has(0, "@1{!3}").has(1, "!3").has(2, "S0");
        for (int i : new int[] {-1, 0, 1, 11, 12, Integer.MIN_VALUE, Integer.MAX_VALUE}) {
            Desk.dueThrow("written before a run", () -> desk.it().written(i), Desk.MISSING);
        }
        desk.fails(0, Desk.STATE);
        for (int i : new int[] {-1, 12, 13, Integer.MIN_VALUE, Integer.MAX_VALUE}) {
            desk.unchangedBy("written(" + i + ")", () -> desk.it().written(i), Desk.MISSING);
        }
        Desk.due("written(0)", desk.it().written(0), 3);
        Desk.due("written(11)", desk.it().written(11), 3);
        // What an earlier run wrote is there no more.
        desk.runs(1, 1);
        Desk.due("written(0)", desk.it().written(0), 3);
        Desk.dueThrow("written(1)", () -> desk.it().written(1), Desk.MISSING);
        desk.runs(2, 1);
        Desk.dueThrow("written(0)", () -> desk.it().written(0), Desk.MISSING);
    }

    private static void latestPlace() {
        Desk desk = new Desk().counts(0, -1).has(0, "!7").counts(0, -1).runs(0, 1).counts(0, -1);
        desk.refuses("S0;x", 3).has(0, "!7").counts(0, 3).runs(0, 1).counts(0, 3).refuses("x", 0).refuses("", 0);
        desk.refuses("a=r", 3).refusesToType(" ", Desk.BAD).counts(0, 3).types("S0;x");
        Desk.dueThrow("compile(4)", () -> desk.it().compile(4), Desk.BAD);
        desk.counts(0, 3).refuses(";S0;x", 3).refuses("S0;S0;S0;S0;S0;S0;S0;S0;S0;S0;S0;S0;S0;S0;S0;S0;", 48);
    }

    private static void lengthOfText() {
        Desk desk = new Desk().counts(1, 0).types("S0;").counts(1, 3).types("S0;S0;S0").counts(1, 11);
        desk.has(0, "", 4).counts(1, 0).refuses("S0;", 3).counts(1, 0);
        desk.types("S0;S0;S0;S0;S0;S0;S0;S0;S0;S0;S0;S0;S0;S0;S0;S0").counts(1, 47).types(";").counts(1, 48);
        desk.refusesToType(";", Desk.STATE).counts(1, 48);
    }

    private static void procedures() {
        Desk desk = new Desk().counts(2, 0);
        for (int k = 3; k >= 0; k--) {
            desk.has(k, "!7").counts(2, 4 - k).has(k, "!8").counts(2, 4 - k).refuses("x", 0).counts(2, 4 - k);
        }
    }

    private static void ofTheLatestRun() {
        Desk desk = new Desk().has(0, "!1;S0;S1;S1;!2").has(1, "S0;v[4]=1").has(2, "W1");
        desk.runs(0, 9, 8, 5).counts(4, 2).counts(5, 10).counts(6, 10).runs(0, 0, 0, 5).counts(4, 2).counts(5, 1).counts(6, 2);
        desk.fails(1, 3, 4, Desk.INDEX).counts(3, 2).counts(4, 0).counts(5, 4).counts(6, 4);
        desk.fails(2, 3, 0, Desk.STATE).counts(3, 1).counts(4, 0).counts(5, 3).counts(6, 0);
        // What is no run leaves them.
        desk.has(3, "!7;!7").sets(0, 5).tape(1, 2).refuses("x", 0).counts(3, 1).counts(4, 0).counts(5, 3).counts(6, 0);
        desk.runs(3, 0, 9, 2).counts(4, 2).counts(5, 0).counts(6, 9);
    }

    private static void processes() {
        Desk desk = new Desk().has(0, "S0").runs(0, 1).counts(7, 1).counts(8, 1);
        desk.has(0, "&{S0|S0}").runs(0, 3).counts(7, 3).counts(8, 3).has(0, "&{S0|S0};&{S0|S0}").runs(0, 6);
        desk.counts(7, 5).counts(8, 3).has(0, "&{&{S0|S0}|S0}").runs(0, 5).counts(7, 5).counts(8, 5);
        desk.has(0, "&{S0|S0;&{S0|S0}}").runs(0, 6).counts(7, 5).counts(8, 4).tape(0, 1, 1).runs(0, 6).counts(8, 5);
        desk.has(0, "@a<9{a=a+1;&{S0|S0}}").runs(0, 46).counts(7, 19).counts(8, 3);
        // Those that would be too many did not come to be.
        desk.tape(0).has(0, "&{&{S0|S0}|&{S0|S0}}").fails(0, Desk.STATE).counts(7, 5).counts(8, 5);
        desk.has(0, "S0").runs(0, 1).counts(7, 1).counts(8, 1);
    }

    private static void howOftenOneWaits() {
        Desk desk = new Desk().has(0, "W0;W0").runs(0, 2, 0, 2).counts(9, 0).fails(0, 1, 0, Desk.STATE).counts(9, 1);
        desk.has(0, "@a<3{a=a+1;&{W0|S0}}").runs(0, 16).counts(9, 3).sets(0, 0).tape(1).runs(0, 16).counts(9, 0);
        desk.tape(0).has(0, "&{W0;W1|S0;S1}").runs(0, 5).counts(9, 2).runs(0, 1, 0, 5).counts(9, 1).runs(0, 1, 1, 5).counts(9, 0);
        desk.has(0, "&{W0|W0}").fails(0, Desk.STATE).counts(9, 2).has(0, "S0").runs(0, 1).counts(9, 0);
    }

    private static void elseMinusOne() {
        Desk desk = new Desk().has(0, "!7;S0;S1").refuses("S0;x", 3).runs(0, 3);
        for (int what : new int[] {-1, 10, -2, 11, Integer.MIN_VALUE, Integer.MAX_VALUE}) {
            desk.counts(what, -1);
        }
        desk.counts(0, 3).counts(9, 0);
    }

    private static void badByteFirst() {
        for (int length = 40; length <= 48; length++) {
            Desk desk = new Desk().types("S0;S0;S0;S0;S0;S0;S0;S0;S0;S0;S0;S0;S0;S0;S0;S0;".substring(0, length));
            String[] bad = {"aaaaaaa ", " aaaaaaa", "aaaa\u007faaa", "\u0080aaaaaaa", "aaaaaaa\u00ff", "\u0001"};
            for (String wrong : bad) {
                desk.refusesToType(wrong, Desk.BAD);
            }
            if (length > 40) {
                desk.refusesToType("aaaaaaaa", Desk.STATE);
            }
        }
    }

    private static void latestRunStays() {
        Desk none = new Desk();
        for (int k = 0; k <= 3; k++) {
            none.fails(k, 10, 0, Desk.BAD).fails(k, 0, -1, Desk.BAD).fails(k, 9, 0, Desk.MISSING);
        }
        Desk desk = new Desk().has(0, "&{W0;!6|S0;S1};a=a+1;!7").runs(0, 0, 4, 7).wrote(6, 7).counts(5, 0).counts(6, 5);
        desk.unchangedBy("run", () -> desk.it().run(1, 10, 0), Desk.BAD);
        desk.unchangedBy("run", () -> desk.it().run(1, 0, -1), Desk.BAD);
        desk.unchangedBy("run", () -> desk.it().run(4, 0, 0), Desk.BAD);
        desk.unchangedBy("run", () -> desk.it().run(1, 9, 9), Desk.MISSING);
        desk.unchangedBy("run", () -> desk.it().run(3, 0, 0), Desk.MISSING);
        desk.wrote(6, 7).counts(3, 7).counts(5, 0).counts(6, 5).counts(7, 3).counts(8, 3).counts(9, 1).holds(0, 1);
    }
}
