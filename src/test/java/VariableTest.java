/** Promises 6 and 7: variable and set. */
public final class VariableTest {
    public static void main(String[] args) {
        numbersOfVariables();
        setReachesRuns();
        ranges();
        wholeNumbers();
        Desk.end();
    }

    private static void numbersOfVariables() {
        Desk desk = new Desk().has(0, "a=1;b=2;c=3;d=4;r=5;s=6;t=7").runs(0, 7);
        desk.has(0, "v[0]=8;v[1]=9;v[2]=10;v[3]=11").runs(0, 4);
        for (int i = 0; i <= 10; i++) {
            desk.holds(i, i + 1);
        }
        for (int i : new int[] {-1, 11, Integer.MIN_VALUE, Integer.MAX_VALUE}) {
            Desk.dueThrow("variable(" + i + ")", () -> desk.it().variable(i), Desk.BAD);
        }
    }

    private static void setReachesRuns() {
        Desk desk = new Desk();
        for (int i = 0; i <= 10; i++) {
            desk.sets(i, i * 10);
        }
        for (int i = 0; i <= 10; i++) {
            desk.holds(i, i * 10);
        }
        desk.has(0, "!a;!b;!c;!d;!r;!s;!t;!v[0];!v[1];!v[2];!v[3]").runs(0, 11);
        desk.wrote(0, 10, 20, 30, 40, 50, 60, 70, 80, 90, 100);
    }

    private static void ranges() {
        Desk desk = new Desk();
        for (int i = 0; i <= 10; i++) {
            desk.sets(i, 1000.0).holds(i, 1000.0).sets(i, -1000.0).holds(i, -1000.0).sets(i, 5).holds(i, 5);
            desk.refusesToSet(i, 1001).refusesToSet(i, -1001).refusesToSet(i, 1000.0000001).refusesToSet(i, -1000.0000001);
            desk.refusesToSet(i, Double.NaN).refusesToSet(i, Double.POSITIVE_INFINITY);
            desk.refusesToSet(i, Double.NEGATIVE_INFINITY).refusesToSet(i, 1e300).refusesToSet(i, 4294967296.0).holds(i, 5);
        }
        for (int i : new int[] {-1, 11, 12, Integer.MIN_VALUE, Integer.MAX_VALUE}) {
            desk.refusesToSet(i, 0);
        }
    }

    private static void wholeNumbers() {
        Desk desk = new Desk();
        for (int i = 0; i <= 10; i++) {
            boolean real = i >= 4 && i <= 6;
            for (double v : new double[] {0.5, -0.5, 999.999, -1e-300, 1.0000000001}) {
                if (real) {
                    desk.sets(i, v).holds(i, v);
                } else {
                    desk.sets(i, 3).refusesToSet(i, v).holds(i, 3);
                }
            }
        }
        desk.sets(0, -0.0).holds(0, 0.0);
    }
}
