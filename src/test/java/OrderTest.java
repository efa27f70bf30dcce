/** Promise 10: order and limits of run; those of type are in TypeTest. */
public final class OrderTest {
    public static void main(String[] args) {
        Desk desk = new Desk();
        desk.fails(4, Desk.BAD).fails(-1, Desk.BAD).fails(0, 10, 0, Desk.BAD).fails(0, 0, 10, Desk.BAD);
        desk.fails(0, -1, 0, Desk.BAD).fails(0, 0, -1, Desk.BAD).fails(0, Desk.MISSING);
        desk.has(0, "&{W0;!6|S0;S1};a=1;!7").runs(0, 3, 4, 7);
        stays(desk);
        for (int k : new int[] {1, 2, 3}) {
            desk.fails(k, 0, 0, Desk.MISSING);
            stays(desk);
            desk.fails(k, 10, 0, Desk.BAD).fails(k, 0, -1, Desk.BAD);
            stays(desk);
        }
        desk.fails(0, 10, 0, Desk.BAD).fails(0, 0, 10, Desk.BAD).fails(-1, 0, 0, Desk.BAD).fails(4, 0, 0, Desk.BAD);
        stays(desk);
        Desk.end();
    }

    private static void stays(Desk desk) {
        desk.counts(3, 7).wrote(6, 7).counts(5, 3).counts(6, 5).counts(7, 3).counts(8, 3).counts(9, 0).holds(0, 1);
    }
}
