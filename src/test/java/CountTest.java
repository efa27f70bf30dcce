/** Promise 9: count. */
public final class CountTest {
    public static void main(String[] args) {
        others();
        places();
        procedures();
        latestRun();
        Desk.end();
    }

    private static void others() {
        Desk desk = new Desk().has(0, "!1").runs(0, 1);
        for (int what : new int[] {-1, 10, 11, -7, Integer.MIN_VALUE, Integer.MAX_VALUE}) {
            desk.counts(what, -1);
        }
    }

    private static void places() {
        Desk desk = new Desk().counts(0, -1).has(0, "!1").counts(0, -1);
        desk.refuses("!1;!2;x", 6).has(0, "!1").counts(0, 6).runs(0, 1).counts(0, 6).refuses("x", 0).counts(0, 0);
        Desk.dueThrow("type", () -> desk.it().type(1), Desk.BAD);
        Desk.dueThrow("compile", () -> desk.it().compile(9), Desk.BAD);
        desk.counts(0, 0).refuses("", 0).refuses("!r%2", 4);
        desk.types("abc").counts(1, 3).types("de").counts(1, 5).counts(0, 4).refuses("", 1).counts(1, 0);
    }

    private static void procedures() {
        Desk desk = new Desk().counts(2, 0).has(2, "!1").counts(2, 1).has(2, "!2").counts(2, 1).has(0, "!1").counts(2, 2);
        desk.refuses("x", 0).counts(2, 2).has(1, "!1").counts(2, 3).has(3, "!1").counts(2, 4).has(3, "!2").counts(2, 4);
    }

    private static void latestRun() {
        Desk desk = new Desk().has(0, "&{W0;!1|S0;S1;!2};!3;&{!4|!5}").runs(0, 4, 7, 10);
        desk.counts(3, 10).counts(4, 5).counts(5, 4).counts(6, 8).counts(7, 5).counts(8, 3).counts(9, 0);
        desk.runs(0, 0, 0, 10).counts(5, 0).counts(6, 1).counts(7, 5).counts(8, 3).counts(9, 1);
        desk.has(1, "W1;!1").fails(1, 3, 0, Desk.STATE);
        desk.counts(3, 1).counts(4, 0).counts(5, 3).counts(6, 0).counts(7, 1).counts(8, 1).counts(9, 1);
        desk.has(1, "!1").sets(0, 3).tape(1).counts(3, 1).counts(5, 3).counts(9, 1);
        desk.runs(1, 2, 2, 1).counts(4, 1).counts(5, 2).counts(6, 2).counts(9, 0);
    }
}
