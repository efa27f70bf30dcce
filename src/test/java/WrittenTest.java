/** Promise 8: written. */
public final class WrittenTest {
    public static void main(String[] args) {
        Desk desk = new Desk().wrote();
        desk.has(0, "!1;!1/4;!0-3;r=2;!r*r").runs(0, 5).wrote(1, 0.25, -3, 4);
        for (int i : new int[] {-1, 4, 11, 12, Integer.MIN_VALUE, Integer.MAX_VALUE}) {
            Desk.dueThrow("written(" + i + ")", () -> desk.it().written(i), Desk.MISSING);
        }
        desk.has(1, "a=1").runs(1, 1).wrote();
        desk.has(1, "!7;!1/0;!8").fails(1, Desk.ARITHMETIC).wrote(7);
        desk.fails(2, Desk.MISSING).wrote(7).fails(9, Desk.BAD).wrote(7);
        desk.refuses("x", 0).wrote(7).has(2, "!3").wrote(7).runs(2, 1).wrote(3);
        Desk.end();
    }
}
