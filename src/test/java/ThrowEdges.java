/** The edges at which a run is ended by what it throws, and the order in which exceptions are seen. */
final class ThrowEdges {
    /** Half the distance from 1000000000.0 to the next double is 2 to the power of -24. */
    private static final double NEXT = 1.0 / (1 << 23);
    private static final double NOT_YET_NEXT = 1.0 / (1 << 25);

    private ThrowEdges() {
    }

    static void check() {
        Sentence.holds("WRITING: the number, as a double, is put behind those written; the 13th: TOO MUCH.",
                ThrowEdges::twelveWritten);
        Sentence.holds("200 STEPS done and one more to do: TOO MUCH.", ThrowEdges::twoHundredSteps);
        Sentence.holds("None is READY, but some are there: STUCK.", ThrowEdges::stuck);
        Sentence.holds("/ by 0 or 0.0, % by 0,", ThrowEdges::byZero);
        Sentence.holds("a REAL outcome of + - * / above 1000000000.0 or below -1000000000.0: ArithmeticException.",
                ThrowEdges::outcomeOfReals);
        Sentence.holds("[ ] not 0 .. 3: IndexOutOfBoundsException.", ThrowEdges::placesInTheRow);
        Sentence.holds("What is thrown ends the run; VARIABLES, SEMAPHORES, what was written and STEPS stay as they are "
                + "then, without what the STATEMENT that threw would have done (its STEP counts).", ThrowEdges::whatStays);
        Sentence.holds("Working out goes from left to right; for v [ E ] = E the [ ] first, and whether it's 0 .. 3, "
                + "then the other E.", ThrowEdges::leftToRight);
        Sentence.holds("\"Bad\" is IllegalArgumentException, a number out of range or a text that can't be read.",
                ThrowEdges::bad);
        Sentence.holds("\"Missing\" is java.util.NoSuchElementException; TOO MUCH and STUCK are IllegalStateException.",
                ThrowEdges::missingAndTooMuch);
        Sentence.holds("A number out of range comes first, then what is Missing at once, then what a run meets;",
                ThrowEdges::whatComesFirst);
        Sentence.holds("a call that throws changes nothing, but as said (run, compile).", ThrowEdges::changesNothing);
    }

    private static void twelveWritten() {
        Desk desk = new Desk().has(0, "!7;!1/4;!1<2;!0-3;!r").runs(0, 5).wrote(7, 0.25, 1, -3, 0);
        desk.has(0, "a=0;@a<b{a=a+1;!a}");
        desk.sets(1, 0).runs(0, 2).wrote().sets(1, 1).runs(0, 5).wrote(1).sets(1, 11).runs(0, 35).counts(4, 11);
        desk.sets(1, 12).runs(0, 38).wrote(1, 2, 3, 4, 5, 6, 7, 8, 9, 10, 11, 12);
        desk.sets(1, 13).fails(0, Desk.STATE).counts(3, 40).wrote(1, 2, 3, 4, 5, 6, 7, 8, 9, 10, 11, 12);
        // All parts and called ones write to the same place.
        desk.sets(0, 0).sets(1, 6).has(0, "&{@a<6{a=a+1;P1}|@b{b=b-1;P1}}").has(1, "!7").runs(0, 51).counts(4, 12);
        desk.sets(0, 0).sets(1, 7).fails(0, Desk.STATE).counts(3, 54).counts(4, 12).holds(1, 0);
        // The next run has room again.
        desk.has(0, "!1;!1;!1;!1;!1;!1;!1;!1;!1;!1;!1;!1").runs(0, 12).runs(0, 12).counts(4, 12);
        desk.has(0, "!1;!1;!1;!1;!1;!1;!1;!1;!1;!1;!1;!1;!1").fails(0, Desk.STATE).counts(3, 13).counts(4, 12);
    }

    private static void twoHundredSteps() {
        // 66 rounds of 3 STEPS and the last test are 199.
        Desk desk = new Desk().has(0, "a=66;@a{a=a-1;b=a}").runs(0, 200).holds(0, 0);
        desk.has(0, "a=66;@a{a=a-1;b=a};!7").fails(0, Desk.STATE).counts(3, 200).holds(0, 0).wrote();
        desk.has(0, "@a{a=a-1;b=a}").sets(0, 66).runs(0, 199).sets(0, 67).fails(0, Desk.STATE).counts(3, 200).holds(0, 0);
        desk.has(0, "@1{c=c+1}").fails(0, Desk.STATE).counts(3, 200).holds(2, 100);
        // The STEPS of all PROCESSES count together: the parting, 99 of each part, and what follows.
        desk.has(0, "&{a=49;@a{a=a-1}|@b{b=b-1}};S0").sets(1, 48).tape(0, 1).runs(0, 199).counts(5, 1);
        desk.has(0, "&{a=49;@a{a=a-1}|@b{b=b-1}};S0;S0").sets(1, 48).runs(0, 200).counts(5, 2);
        desk.has(0, "&{a=49;@a{a=a-1}|@b{b=b-1}};S0;S0;S0").sets(1, 48).fails(0, Desk.STATE).counts(3, 200).counts(5, 2);
        // Those of a called one, too, and each run has its own.
        desk.has(0, "a=67;@a{P1}").has(1, "a=a-1").fails(0, Desk.STATE).counts(3, 200).holds(0, 1);
        desk.has(0, "a=66;@a{P1}").runs(0, 200).runs(0, 200).holds(0, 0);
        // With the test that ends the LOOP still to do, 200 are too few.
        desk.has(0, "a=49;@a{P1}").has(1, "a=a-1;?a<b{S0}").sets(1, 0).runs(0, 198).counts(5, 0);
        desk.sets(1, 2).runs(0, 200).counts(5, 2).sets(1, 3).fails(0, Desk.STATE).counts(3, 200).counts(5, 3);
    }

    private static void stuck() {
        Desk desk = new Desk().has(0, "W0").fails(0, Desk.STATE).counts(3, 1).counts(9, 1).runs(0, 1, 0, 1);
        desk.has(0, "&{W0|W1};!7").fails(0, Desk.STATE).counts(3, 3).counts(9, 2).wrote().runs(0, 1, 1, 4).wrote(7);
        desk.fails(0, 1, 0, Desk.STATE).counts(3, 3).counts(9, 1).fails(0, 0, 1, Desk.STATE).counts(3, 3).counts(9, 1);
        desk.has(0, "&{W0;S1|W1;S0};!7").fails(0, Desk.STATE).counts(3, 3).wrote().runs(0, 1, 0, 6).wrote(7);
        desk.has(0, "&{&{W0|W0}|W1}").fails(0, Desk.STATE).counts(3, 5).counts(9, 3).runs(0, 2, 1, 5).counts(9, 0);
        // As long as one is READY, the run goes on, and the others may be READY again.
        desk.has(0, "&{W0;!1|a=5;@a{a=a-1};!2;S0}").runs(0, 17).wrote(2, 1);
        desk.has(0, "&{W0;!1|a=5;@a{a=a-1};!2;S1}").fails(0, Desk.STATE).counts(3, 16).wrote(2);
    }

    private static void byZero() {
        Desk desk = new Desk();
        desk.worksNot("1/0", Desk.ARITHMETIC).worksNot("0/0", Desk.ARITHMETIC).worksNot("1/a", Desk.ARITHMETIC);
        desk.worksNot("1/r", Desk.ARITHMETIC).worksNot("r/r", Desk.ARITHMETIC).worksNot("(0-1)/r", Desk.ARITHMETIC);
        desk.sets(4, -0.0).worksNot("1/r", Desk.ARITHMETIC).worksNot("1/(2-2)", Desk.ARITHMETIC);
        desk.worksNot("1%0", Desk.ARITHMETIC).worksNot("0%0", Desk.ARITHMETIC).worksNot("7%(a*5)", Desk.ARITHMETIC);
        desk.works("0/1", 0).works("r/1", -0.0).works("0%1", 0).works("1/1", 1).works("1%1", 0).works("1/(0-1)", -1);
        desk.works("1%(0-1)", 0).sets(4, 0.001).works("1/r", 1 / 0.001).sets(4, -0.001).works("1/r", -1 / 0.001);
        desk.sets(4, Double.MIN_VALUE).works("0/r", 0).works("r/r", 1).worksNot("1/r", Desk.ARITHMETIC);
    }

    private static void outcomeOfReals() {
        double[] others = {
            0, NEXT, -NEXT, NOT_YET_NEXT, -NOT_YET_NEXT, 1, -1, Math.nextUp(1.0), -Math.nextUp(1.0), Math.nextDown(1.0),
            -Math.nextDown(1.0), 0.5, -0.5, 2, -2, 1000, -1000
        };
        for (double s : others) {
            for (double r : new double[] {1000, -1000}) {
                double t = r * r * r;
                Desk desk = new Desk().has(0, "t=r*r*r").sets(4, r).sets(5, s).runs(0, 1).holds(6, t);
                outcome(desk, "t+s", t + s);
                outcome(desk, "s+t", s + t);
                outcome(desk, "t-s", t - s);
                outcome(desk, "s-t", s - t);
                outcome(desk, "t*s", t * s);
                outcome(desk, "s*t", s * t);
                if (s != 0) {
                    outcome(desk, "t/s", t / s);
                    outcome(desk, "s/t", s / t);
                }
            }
        }
        whatIsNoSuchOutcome();
    }

    private static void outcome(Desk desk, String e, double due) {
        if (due > 1000000000.0 || due < -1000000000.0) {
            desk.worksNot(e, Desk.ARITHMETIC);
        } else {
            desk.works(e, due);
        }
    }

    /** INTEGERS may be larger, and so may be a REAL that was set to one of them. */
    private static void whatIsNoSuchOutcome() {
        Desk desk = new Desk().has(0, "a=999+1;a=a*a*a;b=a+1;c=0-b").runs(0, 4);
        desk.holds(0, 1e9).holds(1, 1e9 + 1).holds(2, -1e9 - 1).works("a", 1e9).works("a+1", 1e9 + 1).works("c-1", -1e9 - 2);
        desk.works("a*2", 2e9).works("a/1", 1e9).works("(0-a)/1", -1e9);
        desk.worksNot("b/1", Desk.ARITHMETIC).worksNot("c/1", Desk.ARITHMETIC).works("b/2", 5e8 + 0.5);
        desk.has(0, "r=b;s=c").runs(0, 2).holds(4, 1e9 + 1).holds(5, -1e9 - 1).works("r", 1e9 + 1).works("#s", -1e9 - 1);
        desk.works("r=b", 1).works("s<c", 0).works("r-1", 1e9).works("s+1", -1e9).worksNot("r+0", Desk.ARITHMETIC);
        desk.worksNot("s*1", Desk.ARITHMETIC).worksNot("r-0", Desk.ARITHMETIC).worksNot("0-s", Desk.ARITHMETIC);
        desk.works("r+s", 0).worksNot("r/1", Desk.ARITHMETIC);
    }

    private static void placesInTheRow() {
        Desk desk = new Desk().has(0, "v[0]=5;v[1]=6;v[2]=7;v[3]=8").runs(0, 4).has(0, "!v[a]").has(1, "v[a]=9");
        for (int i : new int[] {-1000, -4, -2, -1, 4, 5, 7, 1000}) {
            desk.sets(0, i).fails(0, Desk.INDEX).wrote().fails(1, Desk.INDEX);
        }
        for (int i = 0; i <= 3; i++) {
            desk.holds(7 + i, 5 + i).sets(0, i).runs(0, 1).wrote(5 + i).runs(1, 1).holds(7 + i, 9);
        }
        desk.holds(1, 0).holds(2, 0).holds(3, 0).holds(4, 0).holds(5, 0).holds(6, 0);
        desk.has(2, "a=256*256*256*128").runs(2, 1).fails(0, Desk.INDEX).fails(1, Desk.INDEX);
        desk.has(2, "a=a-1").runs(2, 1).fails(0, Desk.INDEX).fails(1, Desk.INDEX);
        desk.worksNot("v[v[0]]", Desk.INDEX).works("v[v[0]-9]", 9).worksNot("v[3+1]", Desk.INDEX).works("v[3]", 9);
    }

    private static void whatStays() {
        for (String end : "b=1%0 s=1/0 v[2]=1%0 !1/0 ?1%0{b=1} @1/0=1{b=1} s=r/(r-3) s=r*999*999*999".split(" ")) {
            stays(end, Desk.ARITHMETIC, 6);
        }
        for (String end : "v[4]=1 v[2]=v[4] b=v[4] !v[4] s=v[4] ?v[4]{b=1} @v[4]{b=1}".split(" ")) {
            stays(end, Desk.INDEX, 6);
        }
        stays("P3", Desk.MISSING, 6);
        stays("P1", Desk.STATE, 12);
        stays("&{&{P2|P2}|&{P2|P2}}", Desk.STATE, 8).counts(7, 5).counts(8, 5);
        stays("W1", Desk.STATE, 6).counts(9, 1);
        stays("&{W1|W1}", Desk.STATE, 8).counts(7, 3).counts(9, 2);
        stays("@1{c=c+1}", Desk.STATE, 200).holds(2, 97);
        Desk desk = begun("@1{!4}").fails(0, 2, 0, Desk.STATE).counts(3, 29).wrote(3, 4, 4, 4, 4, 4, 4, 4, 4, 4, 4, 4);
        desk.counts(5, 3).holds(0, 3).holds(3, 0);
        // What is right there goes on to its end.
        begun("b=1;s=1;v[2]=1").runs(0, 2, 0, 9).wrote(3).counts(5, 3).holds(1, 1).holds(5, 1).holds(9, 1).holds(3, 9);
        // What was half worked out is of no use to later runs, however often.
        desk = new Desk().has(0, "!1+(2+(3+(4+5/0)))");
        for (int i = 0; i < 60; i++) {
            desk.fails(0, Desk.ARITHMETIC);
        }
        desk.works("1+(2+(3+(4+5*6)))", 40);
        // What the other part did stays, and what it would do next is not done.
        desk = new Desk().has(0, "&{a=1;S1;!7;b=1|c=1%0}").tape(0, 0, 0, 0, 1).fails(0, Desk.ARITHMETIC).counts(3, 5);
        desk.holds(0, 1).holds(1, 0).holds(2, 0).counts(6, 1).wrote(7);
    }

    private static Desk begun(String end) {
        return new Desk().has(0, "a=3;r=3;v[1]=3;S0;!3;" + end + ";d=9").has(1, "P1").has(2, "b=1");
    }

    private static Desk stays(String end, Class<?> kind, int steps) {
        Desk desk = begun(end).fails(0, 2, 0, kind).counts(3, steps).wrote(3).counts(5, 3).counts(6, 0);
        desk.holds(0, 3).holds(1, 0).holds(3, 0).holds(4, 3).holds(5, 0).holds(6, 0);
        return desk.holds(7, 0).holds(8, 3).holds(9, 0).holds(10, 0);
    }

    private static void leftToRight() {
        Desk desk = new Desk();
        desk.worksNot("1/0+v[4]", Desk.ARITHMETIC).worksNot("v[4]+1/0", Desk.INDEX);
        desk.worksNot("1/0-v[4]", Desk.ARITHMETIC).worksNot("v[4]-1/0", Desk.INDEX);
        desk.worksNot("1/0*v[4]", Desk.ARITHMETIC).worksNot("v[4]*(1/0)", Desk.INDEX);
        desk.worksNot("1/0/v[4]", Desk.ARITHMETIC).worksNot("v[4]/(1/0)", Desk.INDEX).worksNot("v[4]/0", Desk.INDEX);
        desk.worksNot("1%0%v[4]", Desk.ARITHMETIC).worksNot("v[4]%(1%0)", Desk.INDEX).worksNot("v[4]%0", Desk.INDEX);
        desk.worksNot("1/0<v[4]", Desk.ARITHMETIC).worksNot("v[4]<1/0", Desk.INDEX);
        desk.worksNot("1/0=v[4]", Desk.ARITHMETIC).worksNot("v[4]=1/0", Desk.INDEX);
        desk.worksNot("v[1%0]+v[4]", Desk.ARITHMETIC).worksNot("0*v[4]+1/0", Desk.INDEX).worksNot("1/v[4]", Desk.INDEX);
        desk = new Desk().has(0, "v[4]=1%0").fails(0, Desk.INDEX).has(0, "v[3]=1%0").fails(0, Desk.ARITHMETIC);
        desk.has(0, "v[0-1]=1%0").fails(0, Desk.INDEX).has(0, "v[1%0]=v[4]").fails(0, Desk.ARITHMETIC);
        desk.has(0, "v[v[4]]=1%0").fails(0, Desk.INDEX).has(0, "v[0]=v[4]+1%0").fails(0, Desk.INDEX);
        desk.has(0, "v[v[0]]=v[0]+2").runs(0, 1).holds(7, 2).runs(0, 1).holds(7, 2).holds(9, 4);
    }

    private static void bad() {
        Desk desk = new Desk().has(0, "!7");
        Desk.dueThrow("type", () -> desk.it().type(32), Desk.BAD);
        Desk.dueThrow("compile", () -> desk.it().compile(4), Desk.BAD);
        Desk.dueThrow("compile of no text", () -> desk.it().compile(0), Desk.BAD);
        Desk.dueThrow("tape", () -> { desk.it().tape(0, 0); return 0; }, Desk.BAD);
        Desk.dueThrow("variable", () -> desk.it().variable(11), Desk.BAD);
        desk.refuses("!", 1).fails(4, 0, 0, Desk.BAD).fails(0, 10, 0, Desk.BAD).fails(0, 0, 10, Desk.BAD);
        desk.refusesToSet(11, 0).refusesToSet(0, 1001).refusesToSet(0, 0.5);
        Desk.due("in range", desk.it().type(33) + desk.it().variable(10) + desk.it().run(0, 9, 9), 2);
    }

    private static void missingAndTooMuch() {
        Desk desk = new Desk().fails(3, Desk.MISSING).has(0, "P3").fails(0, Desk.MISSING);
        Desk.dueThrow("written(0)", () -> desk.it().written(0), Desk.MISSING);
        desk.has(0, "P0").fails(0, Desk.STATE).has(0, "@1{!1}").fails(0, Desk.STATE).has(0, "@1{S0}").fails(0, Desk.STATE);
        desk.has(0, "&{P0|P0}").fails(0, Desk.STATE).has(0, "W0").fails(0, Desk.STATE);
    }

    private static void whatComesFirst() {
        // PROCEDURE 1 is none, and 0 would meet what is thrown in its first STEP.
        Desk desk = new Desk().has(0, "v[4]=1");
        for (int k : new int[] {0, 1}) {
            desk.fails(k, 10, 0, Desk.BAD).fails(k, -1, 0, Desk.BAD).fails(k, 0, 10, Desk.BAD).fails(k, 0, -1, Desk.BAD);
            desk.fails(k, 10, 10, Desk.BAD).fails(k, 9, 9, k == 0 ? Desk.INDEX : Desk.MISSING);
        }
        desk.fails(4, 0, 0, Desk.BAD).fails(-1, 0, 0, Desk.BAD).fails(4, 10, 10, Desk.BAD);
        // What is Missing only later is met in its turn.
        desk.has(0, "!1/0;P1").fails(0, Desk.ARITHMETIC).has(0, "P1;!1/0").fails(0, Desk.MISSING);
    }

    private static void changesNothing() {
        unchangedBy(desk -> desk.type(0x4142437FL), Desk.BAD);
        unchangedBy(desk -> desk.type(Desk.pack("11111111")), Desk.STATE);
        unchangedBy(desk -> desk.compile(4), Desk.BAD);
        unchangedBy(desk -> desk.compile(-1), Desk.BAD);
        unchangedBy(desk -> { desk.tape(0, 17); return 0; }, Desk.BAD);
        unchangedBy(desk -> { desk.tape(0, 0); return 0; }, Desk.BAD);
        unchangedBy(desk -> desk.run(4, 0, 0), Desk.BAD);
        unchangedBy(desk -> desk.run(0, 10, 0), Desk.BAD);
        unchangedBy(desk -> desk.run(0, 0, -1), Desk.BAD);
        unchangedBy(desk -> desk.run(3, 0, 0), Desk.MISSING);
        unchangedBy(desk -> desk.variable(11), Desk.BAD);
        unchangedBy(desk -> { desk.set(4, 1000.5); return 0; }, Desk.BAD);
        unchangedBy(desk -> { desk.set(0, 1.5); return 0; }, Desk.BAD);
        unchangedBy(desk -> { desk.set(11, 1); return 0; }, Desk.BAD);
        unchangedBy(desk -> desk.written(4), Desk.MISSING);
        unchangedBy(desk -> desk.written(-1), Desk.MISSING);
    }

    private interface Use {
        double answer(PascalDesk desk);
    }

    private static void unchangedBy(Use use, Class<?> kind) {
        Desk desk = new Desk().has(0, "&{!1;!2|!3;!4};a=a+1;S0").has(1, "!5").tape(0, 1).sets(4, 2.5).refuses("a=", 2);
        desk.runs(0, 3, 4, 7).wrote(3, 1, 4, 2).types("!6+1+1+1+1+1+1+1+1+1+1+1+1+1+1+1+1+1+1+1+1+1+");
        desk.unchangedBy("a call", () -> use.answer(desk.it()), kind);
        // THE TEXT, the TAPE and the PROCEDURES are what they were, too.
        desk.has(2, "7", 1).runs(2, 1).wrote(34).runs(0, 0, 0, 7).wrote(3, 1, 4, 2).holds(0, 2).runs(1, 1).wrote(5);
    }
}
