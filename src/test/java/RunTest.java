/** Promise 5: run; STEPS, statements, calls, processes and semaphores. */
public final class RunTest {
    public static void main(String[] args) {
        ranges();
        conditions();
        loops();
        tooManySteps();
        tooMuchWritten();
        calls();
        callsTooDeep();
        callsOfParents();
        missingCall();
        parting();
        numbersOfProcesses();
        tooManyProcesses();
        semaphores();
        waitingInOrder();
        stuck();
        whatWasThrownStays();
        keptFromRunToRun();
        Desk.end();
    }

    private static void ranges() {
        Desk desk = new Desk().has(0, "!1").has(3, "!3");
        desk.runs(0, 0, 0, 1).runs(3, 9, 9, 1).counts(5, 9).counts(6, 9).wrote(3);
        desk.fails(-1, Desk.BAD).fails(4, Desk.BAD).fails(0, -1, 0, Desk.BAD).fails(0, 10, 0, Desk.BAD);
        desk.fails(0, 0, -1, Desk.BAD).fails(0, 0, 10, Desk.BAD).fails(1, Desk.MISSING).fails(2, Desk.MISSING);
        desk.fails(Integer.MIN_VALUE, Desk.BAD).fails(Integer.MAX_VALUE, Desk.BAD);
    }

    private static void conditions() {
        Desk desk = new Desk();
        desk.has(0, "?1{!1};!2").runs(0, 3).wrote(1, 2).has(0, "?0{!1};!2").runs(0, 2).wrote(2);
        desk.has(0, "?0-1{!1}").runs(0, 2).wrote(1).has(0, "?0{!1}").runs(0, 1).wrote();
        desk.has(0, "?1<2{?2<1{!1};!2};!3").runs(0, 4).wrote(2, 3).has(0, "?2{!1}").runs(0, 2).wrote(1);
        desk.has(0, "?1{?1{?1{?1{?1{!1}}}}}").runs(0, 6).wrote(1);
    }

    private static void loops() {
        Desk desk = new Desk();
        desk.has(0, "@a<3{a=a+1;!a};!9").runs(0, 11).wrote(1, 2, 3, 9).runs(0, 2).wrote(9);
        desk.has(0, "@b<2{b=b+1;c=0;@c<2{c=c+1;!b*10+c}}").runs(0, 21).wrote(11, 12, 21, 22);
        desk.has(0, "d=3;@d{d=d-1;?d%2{!d}}").runs(0, 12).wrote(1).holds(3, 0);
        desk.has(0, "@0{!1}").runs(0, 1).wrote();
    }

    private static void tooManySteps() {
        Desk desk = new Desk();
        desk.has(0, "@1{a=a+1}").fails(0, Desk.STATE).counts(3, 200).holds(0, 100);
        // 66 rounds of 3 steps and the last test are 199, one more before them is 200.
        desk.sets(0, 0).has(0, "@a<66{a=a+1;b=a}").runs(0, 199).has(0, "a=0;@a<66{a=a+1;b=a}").runs(0, 200);
        desk.has(0, "a=0;b=0;@a<66{a=a+1;b=a}").fails(0, Desk.STATE).counts(3, 200).holds(0, 66).holds(1, 66);
        desk.has(0, "a=0;@a<66{a=a+1;b=a};!1").fails(0, Desk.STATE).counts(3, 200).wrote();
        desk.has(0, "a=0;&{@a<66{a=a+1;b=a}|W0}").fails(0, Desk.STATE).counts(3, 200);
        desk.has(0, "S0;S0;@1{W0;S0}").fails(0, Desk.STATE).counts(3, 200).counts(5, 2).counts(9, 0);
    }

    private static void tooMuchWritten() {
        Desk desk = new Desk().has(0, "a=0;@a<12{a=a+1;!a}").runs(0, 38);
        desk.wrote(1, 2, 3, 4, 5, 6, 7, 8, 9, 10, 11, 12);
        desk.has(0, "a=0;@a<13{a=a+1;!a}").fails(0, Desk.STATE).counts(3, 40).holds(0, 13);
        desk.wrote(1, 2, 3, 4, 5, 6, 7, 8, 9, 10, 11, 12);
        desk.has(0, "a=0;@a<13{a=a+1;!a/(13-a)}").fails(0, Desk.ARITHMETIC).counts(4, 12);
        desk.has(0, "!1").runs(0, 1).wrote(1);
    }

    private static void calls() {
        Desk desk = new Desk().has(0, "P1;!1;P1").has(1, "!2;!3");
        desk.runs(0, 7).wrote(2, 3, 1, 2, 3);
        desk.has(1, "!4").runs(0, 5).wrote(4, 1, 4);
        desk.has(0, "@a<3{P1};P2").has(1, "a=a+1;?a=2{!a}").has(2, "?0{!8}").runs(0, 16).wrote(2);
        desk.has(0, "P0").refuses("P0;", 3).has(1, "P2;!1").has(2, "P3;!2").has(3, "!3").runs(1, 5).wrote(3, 2, 1);
    }

    private static void callsTooDeep() {
        Desk desk = new Desk().has(0, "P0").fails(0, Desk.STATE).counts(3, 7);
        desk.has(0, "a=a+1;?a<7{P0};!a").sets(0, 0).runs(0, 27).wrote(7, 7, 7, 7, 7, 7, 7);
        desk.has(0, "a=a+1;?a<8{P0};!a").sets(0, 0).fails(0, Desk.STATE).counts(3, 21).holds(0, 7).wrote();
        desk.has(1, "@1{P2}").has(2, "b=b+1").fails(1, Desk.STATE).counts(3, 200).holds(1, 66);
        // The seventh calls none: what is missing is told, as the document says it first.
        Desk none = new Desk().has(0, "a=a+1;?a<7{P0};P1").fails(0, Desk.MISSING).counts(3, 21);
        none.has(1, "!1").sets(0, 0).fails(0, Desk.STATE).counts(3, 21).wrote();
    }

    private static void callsOfParents() {
        Desk desk = new Desk().has(0, "a=a+1;?a<4{P0};?a=4{a=9;&{P1|!0}}").has(1, "P2").has(2, "P3").has(3, "!3");
        desk.runs(0, 22).wrote(3, 0);
        desk.sets(0, 0).has(3, "P1").fails(0, Desk.STATE);
        desk.has(0, "a=a+1;?a<5{P0};?a=5{a=9;&{P1|!0}}").has(3, "!3").sets(0, 0).fails(0, Desk.STATE).wrote();
        Desk parts = new Desk().has(0, "&{P1|P2}").has(1, "&{P2|P2}").has(2, "P3").has(3, "!1").tape(0);
        parts.runs(0, 12).wrote(1, 1, 1).counts(7, 5).counts(8, 5);
        Desk loop = new Desk().has(0, "?a<7{a=a+1;&{P0|!a}}").fails(0, Desk.STATE).counts(8, 5);
        loop.holds(0, 3).counts(3, 12).wrote(2);
    }

    private static void missingCall() {
        Desk desk = new Desk().has(0, "a=5;!a;P1;!6").fails(0, Desk.MISSING).counts(3, 3).holds(0, 5).wrote(5);
        desk.has(1, "!7").runs(0, 5).wrote(5, 7, 6);
    }

    private static void parting() {
        Desk desk = new Desk();
        desk.has(0, "&{!1|!2};!3").runs(0, 4).wrote(1, 2, 3).counts(7, 3).counts(8, 3).counts(9, 0);
        desk.tape(1).runs(0, 4).wrote(2, 1, 3).tape(0);
        desk.has(0, "@a<3{a=a+1;&{!a|!10+a}};!0").runs(0, 17).wrote(1, 11, 2, 12, 3, 13, 0).counts(7, 7).counts(8, 3);
        desk.has(0, "&{&{!1|!2};!3|!4};!5").runs(0, 7).wrote(4, 1, 2, 3, 5);
        desk.tape(0, 0, 1).runs(0, 7).wrote(1, 4, 2, 3, 5);
        desk.tape(0).has(0, "&{?0{!1}|@0{!1}}").runs(0, 3).wrote().has(0, "!1").runs(0, 1).counts(7, 1).counts(8, 1);
        desk.has(0, "P1;!9").has(1, "&{P2|P2}").has(2, "b=b+1;!b").runs(0, 9).wrote(1, 2, 9);
    }

    /** Who has which number is seen by the tape alone. */
    private static void numbersOfProcesses() {
        Desk desk = new Desk().has(0, "&{!1|&{!2;!3|!4;!5};!6}");
        // 2 parts while 1 is there, into 3 and 4: number 1 of the three is 3, number 2 is 4.
        desk.tape(0, 1, 1, 1, 1, 1).runs(0, 8).wrote(2, 3, 4, 5, 1, 6);
        desk.tape(0, 1, 2, 2, 1, 1).runs(0, 8).wrote(4, 5, 2, 3, 1, 6);
        // 1 is gone when 2 parts.
        desk.tape(0, 0, 0, 0, 1, 0, 1).runs(0, 8).wrote(1, 2, 4, 3, 5, 6);
        // Numbers that became free are used again, so that five are enough for many partings.
        Desk free = new Desk().has(0, "&{!1|&{!2|!3;&{!4;!7|!5;!8}}}");
        free.tape(0).runs(0, 10).wrote(1, 2, 3, 4, 7, 5, 8).counts(7, 7).counts(8, 5);
        free.tape(0, 1, 2, 0, 1).fails(0, Desk.STATE).counts(3, 5).wrote(3, 1);
    }

    private static void tooManyProcesses() {
        Desk desk = new Desk().has(0, "&{&{!1|!2}|&{!3|!4}}").fails(0, Desk.STATE);
        desk.counts(3, 3).counts(7, 5).counts(8, 5).wrote();
        desk.tape(0, 0, 1).fails(0, Desk.STATE).counts(3, 4).wrote(1);
        desk.tape(0, 0, 2, 2).fails(0, Desk.STATE).counts(3, 4).wrote(2);
        Desk one = new Desk().has(0, "&{&{!1|!2}|!0;!0;&{!3|!4}}").tape(0, 0, 1, 1, 0, 0, 0);
        one.runs(0, 9).counts(7, 7).counts(8, 5);
        Desk deep = new Desk().has(0, "&{&{&{!1|!2}|!3}|!4}").fails(0, Desk.STATE).counts(3, 4).counts(7, 5).wrote(4);
        deep.tape(0, 0, 1, 2).has(0, "&{&{!1|!2}|!4}").runs(0, 5).counts(8, 5);
    }

    private static void semaphores() {
        Desk desk = new Desk().has(0, "W0;!1;W1;!2").runs(0, 1, 1, 4).wrote(1, 2).counts(5, 0).counts(6, 0).counts(9, 0);
        desk.has(0, "W1;W1;S0;S0;S0").runs(0, 4, 3, 5).counts(5, 7).counts(6, 1).runs(0, 9, 9, 5).counts(5, 12).counts(6, 7);
        desk.has(0, "&{W0;!1|!2;S0;S0}").runs(0, 6).wrote(2, 1).counts(5, 1).counts(9, 1);
        desk.runs(0, 1, 0, 6).wrote(1, 2).counts(5, 2).counts(9, 0);
        desk.has(0, "&{W0|S0};!1").runs(0, 4).wrote(1).counts(5, 0).counts(6, 0).counts(9, 1);
        desk.has(0, "&{W0|S1;S0}").runs(0, 4).counts(5, 0).counts(6, 1);
        desk.has(0, "@a<3{&{W0|S0};a=a+1};!a").runs(0, 17).wrote(3).counts(9, 3);
        desk.has(1, "W0").has(0, "&{P1;!1|S0;!2}").runs(0, 6).wrote(1, 2);
    }

    private static void waitingInOrder() {
        Desk desk = new Desk().has(0, "&{&{W0;!1|W0;!2}|!0;S0;S0}");
        desk.runs(0, 9).wrote(0, 1, 2).counts(9, 0);
        desk.tape(0, 0, 1, 1, 0, 0, 1, 0, 0).runs(0, 9).wrote(0, 1, 2).counts(9, 2);
        // 4 waits before 3, so that it is the first whose wait is over.
        desk.tape(0, 0, 2, 1, 0, 0, 1, 0, 0).runs(0, 9).wrote(0, 2, 1).counts(9, 2);
        desk.has(0, "&{&{W0;!1|W1;!2}|!0;S1;S0}").tape(0, 0, 1, 1, 0, 0, 1, 0, 0);
        desk.runs(0, 9).wrote(0, 2, 1).counts(9, 2);
        // 3 waits again, but behind 4.
        desk.has(0, "&{&{W0;!1;W0;!3|W0;!2}|S0;S0;S0}").tape(0, 0, 1, 1, 0, 1, 1, 0, 1, 0, 0);
        desk.runs(0, 11).counts(9, 3).counts(5, 0).wrote(1, 2, 3);
    }

    private static void stuck() {
        Desk desk = new Desk().has(0, "a=1;W0;a=2").fails(0, Desk.STATE).counts(3, 2).counts(9, 1).holds(0, 1);
        desk.runs(0, 1, 0, 3).holds(0, 2);
        desk.has(0, "&{W0;S1|W1;S0};!1").fails(0, Desk.STATE).counts(3, 3).counts(9, 2).wrote();
        desk.fails(0, 0, 0, Desk.STATE).runs(0, 1, 0, 6).wrote(1).counts(5, 1).counts(6, 0);
        desk.has(0, "W0").fails(0, 0, 9, Desk.STATE).counts(3, 1).counts(6, 9).counts(7, 1);
    }

    private static void whatWasThrownStays() {
        Desk desk = new Desk().has(0, "a=1;r=2;S0;!3;v[1]=4;b=1%0;!5");
        desk.fails(0, 2, 3, Desk.ARITHMETIC).counts(3, 6).holds(0, 1).holds(4, 2).holds(8, 4).holds(1, 0);
        desk.counts(5, 3).counts(6, 3).wrote(3);
        desk.has(0, "&{a=a+1;W1|r=1/0}").tape(0, 0, 1).fails(0, Desk.ARITHMETIC).holds(0, 2).counts(3, 3);
        desk.counts(7, 3).counts(8, 3).counts(9, 0);
        desk.has(0, "v[0]=7;v[0]=v[4]").fails(0, Desk.INDEX).holds(7, 7).counts(3, 2);
        desk.has(0, "?1/0=1{!1}").fails(0, Desk.ARITHMETIC).counts(3, 1).has(0, "@v[4]{!1}").fails(0, Desk.INDEX).counts(3, 1);
        // What was half worked out is of no use to later runs, however often.
        desk.has(0, "!1+(2+(3+(4+5/0)))");
        for (int i = 0; i < 40; i++) {
            desk.fails(0, Desk.ARITHMETIC);
        }
        desk.has(0, "!1+(2+(3+(4+5*6)))").runs(0, 1).wrote(40);
    }

    private static void keptFromRunToRun() {
        Desk desk = new Desk().has(0, "a=a+1;r=r+1/2;v[2]=v[2]+a;!a");
        desk.runs(0, 4).wrote(1).runs(0, 4).wrote(2).runs(0, 4).wrote(3).holds(0, 3).holds(4, 1.5).holds(9, 6);
        desk.has(1, "S0").runs(1, 1).counts(5, 1).runs(1, 1).counts(5, 1).wrote();
    }
}
