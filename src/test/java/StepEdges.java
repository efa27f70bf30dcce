import java.util.ArrayList;
import java.util.List;

/** The edges of RUNNING: whose turn it is, what a STEP is, calls, processes and semaphores. */
final class StepEdges {
    private StepEdges() {
    }

    static void check() {
        Sentence.holds("RUNNING PROCEDURE k: PROCESS 0 begins its BODY; the SEMAPHORES are as given; nothing is written;",
                StepEdges::beginning);
        Sentence.holds("STEPS are done until no PROCESS is there.", StepEdges::untilNoProcess);
        Sentence.holds("In each one a READY PROCESS does one thing: with n of them, in the order of their numbers, "
                + "number (t modulo n) of these, from 0 on,", StepEdges::modulo);
        Sentence.holds("t being the next number of the TAPE, with whose first one each run begins, and which begins anew "
                + "at its end; each run begins with its first number.", StepEdges::tapeBeginsAnew);
        Sentence.holds("That is: the next STATEMENT of a BODY, wholly, but of IF, LOOP and BOTH only the test of E, "
                + "or the parting;", StepEdges::oneThing);
        Sentence.holds("a LOOP's test comes again when its BODY is over;", StepEdges::testAgain);
        Sentence.holds("a BODY's end, and that of a called one, is no STEP, but goes on at once to what comes next "
                + "(a LOOP's test, too, which then is the next thing);", StepEdges::endIsNoStep);
        Sentence.holds("a PROCESS whose BODY is over is gone at once.", StepEdges::goneAtOnce);
        Sentence.holds("CALL: the BODY of that PROCEDURE comes next (none: Missing), as it is then;", StepEdges::calledBody);
        Sentence.holds("above 6 CALLS in one another in a PROCESS (or one that it came from): TOO MUCH.", StepEdges::sixCalls);
        Sentence.holds("BOTH: two new PROCESSES, with the least free numbers, for the first and the second BODY; "
                + "the one that parts is not READY until both are gone.", StepEdges::parting);
        Sentence.holds("Above 5 PROCESSES: TOO MUCH.", StepEdges::fiveProcesses);
        Sentence.holds("WAIT: the SEMAPHORE is above 0: one less; else the PROCESS isn't READY, and is the last of those "
                + "that wait for it.", StepEdges::waiting);
        Sentence.holds("SIGNAL: the first that waits for it is READY (with its WAIT over); none: it's one more.",
                StepEdges::signalling);
    }

    private static void beginning() {
        Desk desk = new Desk().has(0, "!7;!8;S0").has(1, "W0;W1;W1").has(2, "v[4]=1").has(3, "&{P3|W0}");
        desk.runs(0, 3, 4, 3).wrote(7, 8).counts(5, 4).counts(6, 4).counts(7, 1).counts(8, 1);
        desk.runs(1, 1, 2, 3).wrote().counts(5, 0).counts(6, 0).counts(7, 1).counts(8, 1).counts(9, 0);
        desk.runs(0, 0, 0, 3).wrote(7, 8).counts(5, 1).counts(6, 0);
        desk.fails(2, 9, 9, Desk.INDEX).wrote().counts(3, 1).counts(5, 9).counts(6, 9).counts(7, 1).counts(8, 1);
        // What a run that ended by a throw left open is no part of the next one.
        for (int i = 0; i < 3; i++) {
            desk.fails(3, 0, 0, Desk.STATE).counts(3, 6).counts(7, 5).counts(8, 5).counts(9, 1);
            desk.runs(0, 0, 0, 3).wrote(7, 8).counts(7, 1).counts(8, 1).counts(9, 0);
        }
    }

    private static void untilNoProcess() {
        Desk desk = new Desk().has(0, "!7").runs(0, 1).wrote(7).has(0, "&{!1;!2|!3};!4").runs(0, 5).wrote(1, 2, 3, 4);
        desk.tape(1).runs(0, 5).wrote(3, 1, 2, 4).has(0, "&{&{!1|!2};!3|!4};!5").runs(0, 7).counts(4, 5);
        desk.has(0, "@a<20{a=a+1}").runs(0, 41).holds(0, 20);
    }

    private static void modulo() {
        for (int t = 0; t <= 15; t++) {
            new Desk().tape(t).has(0, "!1;!2;!3").runs(0, 3).wrote(1, 2, 3);
            Desk two = new Desk().tape(t, t, t).has(0, "&{!1|!2}").runs(0, 3);
            two.wrote(1 + t % 2, 2 - t % 2);
            // The three are numbers 2, 3 and 4, and write 3, 1 and 2.
            List<Integer> order = new ArrayList<>(List.of(3, 1, 2));
            double first = order.remove(t % 3);
            Desk three = new Desk().tape(0, 0, t).has(0, "&{&{!1|!2}|!3}").runs(0, 5);
            three.wrote(first, order.get(0), order.get(1));
        }
    }

    private static void tapeBeginsAnew() {
        for (int n = 1; n <= 16; n++) {
            int[] numbers = new int[n];
            for (int i = 0; i < n; i++) {
                numbers[i] = i * i * 5 / 3 + n & 15;
            }
            // The last number is unlike the first, so that a tape that ends early or late is seen.
            numbers[n - 1] = numbers[0] ^ 1;
            Desk desk = turns().tape(numbers);
            for (int i = 0; i < 3; i++) {
                desk.fails(0, Desk.STATE).wrote(twelveTurns(numbers));
            }
        }
        // A number is taken for a STEP with one READY PROCESS, too.
        new Desk().has(0, "S0;S0;&{!1;!2|!3;!4}").tape(9, 9, 9, 1, 0, 1, 0).runs(0, 7).wrote(3, 1, 4, 2);
    }

    /** Two parts that write their number without end: the 13th writing is too much. */
    static Desk turns() {
        return new Desk().has(0, "&{@1{!0}|@1{!1}}", 5);
    }

    /** What turns() writes by such a tape; its first number is for the parting. */
    static double[] twelveTurns(int... numbers) {
        double[] written = new double[12];
        boolean[] inside = new boolean[2];
        int writings = 0;
        for (int step = 1; writings < 12; step++) {
            int who = numbers[step % numbers.length] % 2;
            if (inside[who]) {
                written[writings] = who;
                writings++;
            }
            inside[who] = !inside[who];
        }
        return written;
    }

    private static void oneThing() {
        Desk desk = new Desk().has(1, "S0");
        desk.has(0, "a=1").runs(0, 1).has(0, "v[1]=1").runs(0, 1).has(0, "!1").runs(0, 1).has(0, "S0").runs(0, 1);
        desk.has(0, "W0").runs(0, 1, 0, 1).has(0, "P1").runs(0, 2).has(0, "!(1+2*3-4%3<5)+v[#(7/8)]*v[v[0]]-6").runs(0, 1);
        desk.has(0, "?0{S0}").runs(0, 1).has(0, "?1{S0}").runs(0, 2).has(0, "@0{S0}").runs(0, 1);
        desk.has(0, "&{S0|S0}").runs(0, 3);
        // Between a test and the BODY the other part has its turn.
        desk.sets(0, 0).has(0, "&{?a=0{!1}|a=5;!2}").tape(0, 0, 1, 0).runs(0, 5).wrote(1, 2);
        desk.sets(0, 0).tape(0, 1, 0, 0).runs(0, 4).wrote(2);
        desk.sets(0, 0).has(0, "&{@a<1{a=1;!1}|a=1;!2}").tape(0, 0, 1, 0).runs(0, 7).wrote(1, 2);
        desk.sets(0, 0).tape(0, 1, 0, 0).runs(0, 4).wrote(2);
        // The parting does nothing of either BODY.
        desk.sets(0, 0).has(0, "&{a=1|v[4]=1}").tape(0, 1).fails(0, Desk.INDEX).counts(3, 2).holds(0, 0);
        desk.has(0, "&{v[4]=1|a=1}").tape(0, 0).fails(0, Desk.INDEX).counts(3, 2).holds(0, 0);
    }

    private static void testAgain() {
        Desk desk = new Desk().has(0, "@a{a=a-1};!9");
        for (int rounds = 0; rounds <= 9; rounds++) {
            desk.sets(0, rounds).runs(0, 2 * rounds + 2).holds(0, 0).wrote(9);
        }
        desk.sets(0, 2).has(0, "@a{a=a-1;b=2;@b{b=b-1;!a*10+b}};!9").runs(0, 22).wrote(11, 10, 1, 0, 9);
    }

    private static void endIsNoStep() {
        Desk desk = new Desk().has(0, "?1{?1{?1{?1{?1{S0}}}}}").runs(0, 6).has(0, "@a<1{?1{?1{a=1}}};!9").runs(0, 6);
        desk.has(0, "P1").has(1, "P2").has(2, "P3").has(3, "S0").runs(0, 4).has(3, "?1{S0}").runs(0, 5);
        desk.sets(0, 0).has(0, "@a<2{P1}").has(1, "a=a+1").runs(0, 7).has(0, "&{?1{S0}|P1};S0").runs(0, 6);
        // The test that comes next is a STEP of its own: what was set before it is seen.
        desk.sets(0, 0).has(0, "&{@a<1{a=1;!1}|a=0}").tape(0, 0, 0, 0, 1, 0, 0, 0, 0).runs(0, 9).wrote(1, 1);
        desk.sets(0, 0).tape(0, 0, 0, 0, 0, 1).runs(0, 6).wrote(1);
        desk.sets(0, 0).has(0, "&{@a<1{P1}|a=0}").has(1, "a=1;!1").tape(0, 0, 0, 0, 0, 1, 0, 0, 0, 0, 0);
        desk.runs(0, 11).wrote(1, 1);
    }

    private static void goneAtOnce() {
        // 3 is gone when it has written 1, so that 1 modulo 2 is 4's turn.
        Desk desk = new Desk().has(0, "&{&{!1|!2;!4}|!3;!5}").tape(0, 0, 1, 1, 1, 1, 1).runs(0, 7).wrote(1, 2, 4, 3, 5);
        desk.has(0, "&{!1|!2};!3").runs(0, 4).wrote(1, 2, 3);
        // The one that parted has its turn as soon as both are gone: it is number 0 of two then.
        desk.has(0, "&{&{!1|!2};!3|!4;!5}").tape(0, 0, 1, 1, 0, 0).runs(0, 7).wrote(1, 2, 3, 4, 5);
        desk.tape(0, 0, 1, 1, 1, 1, 0).runs(0, 7).wrote(1, 2, 4, 5, 3);
        // A PROCESS is gone, too, when a SIGNAL ends the WAIT that was its last STATEMENT.
        desk.tape(0).has(0, "&{W0|S0;&{!1|!2}}").runs(0, 6).wrote(1, 2).counts(7, 5).counts(8, 4);
        desk.has(0, "&{W0;S1|S0;&{!1|!2}}").tape(0, 0, 0, 1, 0).runs(0, 7).counts(7, 5).counts(8, 5);
        desk.tape(0).has(0, "&{?1{P1}|S0;&{!1|!2}}").has(1, "?1{W0}").runs(0, 9).wrote(1, 2).counts(8, 4);
        desk.sets(0, 0).has(0, "@a<7{a=a+1;&{S0|S0}}").runs(0, 36).counts(7, 15).counts(8, 3);
    }

    private static void calledBody() {
        Desk desk = new Desk().has(0, "!1;P3;!2").fails(0, Desk.MISSING).counts(3, 2).wrote(1);
        desk.has(3, "!7;!8", 2).runs(0, 5).wrote(1, 7, 8, 2).has(3, "!9", 1).runs(0, 4).wrote(1, 9, 2);
        // A text that can't be read leaves the PROCEDURE as it is.
        desk.types("!x");
        Desk.dueThrow("compile(3)", () -> desk.it().compile(3), Desk.BAD);
        desk.runs(0, 4).wrote(1, 9, 2);
        desk.has(0, "?0{P2};!3").runs(0, 2).wrote(3).has(0, "?1{P2};!3").fails(0, Desk.MISSING).counts(3, 2).wrote();
        desk.has(2, "!4").runs(0, 4).wrote(4, 3);
    }

    private static void sixCalls() {
        Desk desk = new Desk().has(0, "a=a-1;?a{P0};!a");
        desk.sets(0, 7).runs(0, 27).wrote(0, 0, 0, 0, 0, 0, 0);
        desk.sets(0, 8).fails(0, Desk.STATE).counts(3, 21).holds(0, 1).wrote();
        // The seventh of a PROCEDURE that is none is Missing.
        new Desk().has(0, "a=a-1;?a{P0};P1").sets(0, 7).fails(0, Desk.MISSING).counts(3, 21);
        // CALLS that are over don't count.
        Desk loop = new Desk().has(0, "b=9;@b{b=b-1;P1}").has(1, "P2").has(2, "P3").has(3, "c=c+1");
        loop.runs(0, 56).holds(2, 9);
        desk.sets(0, 7).has(1, "P0").fails(1, Desk.STATE).sets(0, 6).runs(1, 24).sets(0, 6).runs(1, 24);
        // Those of another part, which it didn't come from, don't count either.
        Desk parts = new Desk().has(0, "&{P1|P1};!7").has(1, "P2").has(2, "P3").has(3, "S0;W0;S0").tape(0, 0, 1);
        parts.runs(0, 14).wrote(7).has(1, "a=a-1;?a{P1};!a").has(0, "&{P1|P2};!7").has(2, "b=b-1;?b{P2};!b");
        parts.sets(0, 6).sets(1, 5).tape(0, 0, 1).runs(0, 46).counts(4, 12).sets(0, 7).sets(1, 1).fails(0, Desk.STATE);
        for (int calls = 0; calls <= 5; calls++) {
            for (int ofFirst = 1; ofFirst <= 4; ofFirst++) {
                for (int ofSecond = 1; ofSecond <= 4; ofSecond++) {
                    callsOfThreeProcesses(calls, ofFirst, ofSecond);
                }
            }
        }
    }

    /** PROCESS 0 has so many CALLS open when it parts, the one that came from it, and the one from that. */
    private static void callsOfThreeProcesses(int calls, int ofFirst, int ofSecond) {
        Desk desk = new Desk().has(0, "a=a-1;?a{P0};?a=0{a=0-1;&{P1|S0}}").sets(0, calls + 1);
        desk.has(1, "b=b-1;?b{P1};?b=0{b=0-1;&{P2|S0}}").sets(1, ofFirst);
        desk.has(2, "c=c-1;?c{P2};?c=0{c=0-1;!7}").sets(2, ofSecond);
        if (calls + ofFirst + ofSecond > 6) {
            desk.fails(0, Desk.STATE).wrote();
        } else {
            desk.runs(0, 4 * (calls + ofFirst + ofSecond) + 11).wrote(7).counts(5, 2).counts(8, 5);
        }
    }

    private static void parting() {
        Desk desk = new Desk().has(0, "&{!1;!2|!3;!4};!5");
        desk.tape(0, 0).runs(0, 6).wrote(1, 2, 3, 4, 5).tape(0, 1).runs(0, 6).counts(7, 3).counts(8, 3);
        for (int turns = 0; turns < 16; turns++) {
            desk.tape(0, turns & 1, turns >> 1 & 1, turns >> 2 & 1, turns >> 3).runs(0, 6);
            Desk.due("what is written last", desk.it().written(4), 5);
            Desk.due("what is written first", desk.it().written(0), (turns & 1) == 0 ? 1 : 3);
        }
        // Both must be gone: one that waits holds the one that parted.
        desk.tape(0).has(0, "&{S1|W0};!5").fails(0, Desk.STATE).wrote().runs(0, 1, 0, 4).wrote(5);
        desk.has(0, "&{W0|S1};!5").fails(0, Desk.STATE).wrote().runs(0, 1, 0, 4).wrote(5);
        // 2 parts while 1 is there, into 3 and 4; and 1 while 2 is there.
        desk.has(0, "&{!1|&{!2;!3|!4;!5};!6}").tape(0, 1, 1, 1, 1, 1).runs(0, 8).wrote(2, 3, 4, 5, 1, 6);
        desk.tape(0, 1, 2, 2, 1, 1).runs(0, 8).wrote(4, 5, 2, 3, 1, 6).tape(0, 1, 0).runs(0, 8).wrote(1, 2, 4, 3, 5, 6);
        desk.has(0, "&{&{!2;!3|!4;!5};!6|!1}").tape(0, 0, 0, 0, 1).runs(0, 8).wrote(1, 2, 4, 3, 5, 6);
        // 1 is gone when 2 parts, so that its number is free; 1 and 3 then are in the order of the two BODIES.
        desk.has(0, "&{S0|S0;&{!2;!3|!4;!5};!6}").tape(0, 0, 0, 0, 0, 1, 0, 1).runs(0, 9).wrote(2, 4, 3, 5, 6);
    }

    private static void fiveProcesses() {
        Desk desk = new Desk().has(0, "&{&{!1|!2}|!3}").runs(0, 5).counts(7, 5).counts(8, 5);
        desk.has(0, "&{&{!1|!2}|&{!3|!4}}").fails(0, Desk.STATE).counts(3, 3).counts(7, 5).counts(8, 5).wrote();
        // One of the five being gone, the two new ones still would be six.
        desk.tape(0, 0, 1, 0).fails(0, Desk.STATE).counts(3, 4).counts(7, 5).wrote(1);
        desk.tape(0, 0, 2, 0).fails(0, Desk.STATE).counts(3, 4).counts(7, 5).wrote(2);
        // Two of them being gone, and the third that they came from, there is room.
        desk.tape(0, 0, 1, 1, 0).runs(0, 7).counts(7, 7).counts(8, 5).wrote(1, 2, 3, 4);
        desk.has(0, "&{&{&{!1|!2}|!3}|!4}").tape(0, 0, 1).fails(0, Desk.STATE).counts(3, 3).counts(7, 5).wrote();
        // Of 0, 1 and 3 the last parts, when 2 and 4 are gone.
        desk.tape(0, 0, 0, 1, 0).runs(0, 7).counts(7, 7).counts(8, 5).wrote(4, 3, 1, 2);
        desk.sets(0, 0).tape(0).has(0, "@a<9{a=a+1;&{&{S0|S0}|S0}}").runs(0, 64).counts(7, 37).counts(8, 5);
    }

    private static void waiting() {
        for (int which = 0; which <= 1; which++) {
            int one = which;
            Desk desk = new Desk().has(0, "W" + which + ";!7");
            for (int above = 0; above <= 9; above++) {
                int first = one == 0 ? above : 5;
                int second = one == 1 ? above : 5;
                if (above > 0) {
                    desk.runs(0, first, second, 2).counts(5 + one, above - 1).counts(9, 0).wrote(7);
                } else {
                    desk.fails(0, first, second, Desk.STATE).counts(3, 1).counts(5 + one, 0).counts(9, 1).wrote();
                }
                desk.counts(6 - one, 5);
            }
            desk.has(0, "W" + which + ";W" + which + ";!7").runs(0, 2, 2, 3).fails(0, 1, 1, Desk.STATE).counts(3, 2).counts(9, 1);
        }
        // The one that waits is not READY: the other has every turn.
        new Desk().has(0, "&{W0;!1|!2;!3;S0;!4}").runs(0, 7).wrote(2, 3, 1, 4).counts(9, 1);
        // Who waits first, goes on first, be its number lower or higher.
        Desk desk = new Desk().has(0, "&{&{W0;!1|W0;!2}|S0;S0}");
        desk.tape(0, 0, 1, 1, 0, 1, 0).runs(0, 8).wrote(1, 2).counts(9, 2);
        desk.tape(0, 0, 2, 1, 0, 1, 0).runs(0, 8).wrote(2, 1).counts(9, 2);
        // 3, having waited, waits again, and is behind 4 then.
        desk.has(0, "&{&{W0;!1;W0;!3|W0;!2}|S0;S0;S0}").tape(0, 0, 1, 1, 0, 1, 1, 0, 1, 0, 0).runs(0, 11);
        desk.wrote(1, 2, 3).counts(9, 3).counts(5, 0);
    }

    private static void signalling() {
        Desk desk = new Desk().has(0, "S0").has(1, "S1").has(2, "S0;S0;S0");
        for (int above = 0; above <= 9; above++) {
            desk.runs(0, above, 5, 1).counts(5, above + 1).counts(6, 5);
            desk.runs(1, 5, above, 1).counts(5, 5).counts(6, above + 1);
        }
        desk.runs(2, 9, 9, 3).counts(5, 12).counts(6, 9);
        // The first that waits is READY, its WAIT over, and the SEMAPHORE is none more.
        desk.has(0, "&{W0;!1|S0;!2}").runs(0, 5).wrote(1, 2).counts(5, 0).counts(9, 1);
        desk.has(0, "&{W0;!1|S0;S0;!2}").tape(0, 1, 0).runs(0, 6).counts(5, 1).counts(9, 0).wrote(1, 2);
        desk.tape(0, 0, 0, 1, 1, 0).runs(0, 6).counts(5, 1).counts(9, 1).wrote(2, 1);
        // Who waits for the other one is not READY by it.
        desk.tape(0).has(0, "&{W0;!1|S1;!2}").fails(0, Desk.STATE).wrote(2).counts(5, 0).counts(6, 1).counts(3, 4);
        desk.has(0, "&{W1;!1|S0;!2}").fails(0, Desk.STATE).wrote(2).counts(5, 1).counts(6, 0).counts(3, 4);
        desk.has(0, "&{&{W0;!1|W1;!2}|S1;S0}").tape(0, 0, 1, 1, 0, 1, 0).runs(0, 8).wrote(2, 1).counts(9, 2);
        // One SIGNAL is for one that waits, the first.
        desk.has(0, "&{&{W0;!1|W0;!2}|S0}").tape(0, 0, 1, 1, 0, 0).fails(0, Desk.STATE).counts(3, 6).wrote(1);
        desk.tape(0, 0, 2, 1, 0, 0).fails(0, Desk.STATE).counts(3, 6).wrote(2).counts(5, 0).counts(9, 2);
    }
}
