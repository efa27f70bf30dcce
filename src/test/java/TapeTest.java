/** Promise 4: tape, and whose turn it is. */
public final class TapeTest {
    public static void main(String[] args) {
        refusesLengths();
        lowestFirst();
        beginsAnew();
        everyStepTakesOne();
        sixteenNumbers();
        higherHalfBytesAreLeftOut();
        moduloOfThree();
        Desk.end();
    }

    private static Desk twoParts() {
        return new Desk().has(0, "&{!1;!2;!3|!4;!5;!6}", 7);
    }

    private static void refusesLengths() {
        Desk desk = twoParts().tape(1);
        for (int n : new int[] {0, -1, 17, Integer.MIN_VALUE, Integer.MAX_VALUE}) {
            Desk.dueThrow("tape(0, " + n + ")", () -> { desk.it().tape(0, n); return 0; }, Desk.BAD);
        }
        desk.runs(0, 7).wrote(4, 5, 6, 1, 2, 3);
    }

    private static void lowestFirst() {
        Desk desk = twoParts();
        desk.it().tape(0x10, 2);
        desk.runs(0, 7).wrote(4, 1, 5, 2, 6, 3);
        desk.it().tape(0x01, 2);
        desk.runs(0, 7).wrote(1, 4, 2, 5, 3, 6);
    }

    private static void beginsAnew() {
        Desk desk = twoParts().tape(0, 1, 1, 0, 0);
        desk.runs(0, 7).wrote(4, 5, 1, 2, 3, 6);
        desk.runs(0, 7).wrote(4, 5, 1, 2, 3, 6);
        desk.tape(0).runs(0, 7).wrote(1, 2, 3, 4, 5, 6);
    }

    private static void everyStepTakesOne() {
        Desk desk = new Desk().has(0, "!0;!0;&{!1;!2|!3;!4}").tape(9, 9, 9, 1, 0, 1, 0);
        desk.runs(0, 7).wrote(0, 0, 3, 1, 4, 2);
    }

    private static void sixteenNumbers() {
        Desk desk = new Desk().has(0, "d=0;&{@a<9{a=a+1;d=d*2}|@b<9{b=b+1;d=d*2+1}}");
        desk.it().tape(0xFEDCBA9876543210L, 16);
        desk.runs(0, 58);
        desk.holds(0, 9).holds(1, 9).holds(3, alternated());
        Desk high = twoParts();
        high.it().tape(0x8888888888888880L, 16);
        high.runs(0, 7).wrote(1, 2, 3, 4, 5, 6);
        high.it().tape(0xFFFFFFFFFFFFFFFFL, 16);
        high.runs(0, 7).wrote(4, 5, 6, 1, 2, 3);
    }

    /** By even and odd turns each part does its test, its number and its bit in turn. */
    private static int alternated() {
        int bits = 0;
        for (int i = 0; i < 9; i++) {
            bits = (bits * 2) * 2 + 1;
        }
        return bits;
    }

    private static void higherHalfBytesAreLeftOut() {
        Desk desk = twoParts();
        desk.it().tape(0xFFFFFFF0L, 1);
        desk.runs(0, 7).wrote(1, 2, 3, 4, 5, 6);
    }

    private static void moduloOfThree() {
        Desk desk = new Desk().has(0, "&{&{!1|!2}|!3}");
        desk.tape(0, 0, 15).runs(0, 5).wrote(3, 1, 2);
        desk.tape(0, 0, 1, 0, 0).runs(0, 5).wrote(1, 3, 2);
        desk.tape(0, 0, 5, 1, 0).runs(0, 5).wrote(2, 1, 3);
    }
}
