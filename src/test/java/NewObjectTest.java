/** Promise 1: a new object. */
public final class NewObjectTest {
    public static void main(String[] args) {
        Desk desk = new Desk();
        desk.counts(0, -1);
        for (int what = 1; what <= 9; what++) {
            desk.counts(what, 0);
        }
        for (int i = 0; i <= 10; i++) {
            desk.holds(i, 0.0);
        }
        desk.wrote();
        for (int k = 0; k < 4; k++) {
            desk.fails(k, Desk.MISSING);
        }
        tapeIsOneZero();
        objectsAreApart();
        Desk.end();
    }

    private static void tapeIsOneZero() {
        new Desk().has(0, "&{!1;!2;!3|!4;!5;!6}").runs(0, 7).wrote(1, 2, 3, 4, 5, 6);
    }

    private static void objectsAreApart() {
        Desk one = new Desk();
        Desk other = new Desk();
        one.has(0, "a=7;!a;S0").types("abc").runs(0, 3);
        one.refuses("", 1);
        other.counts(0, -1).counts(1, 0).counts(2, 0).counts(3, 0).counts(5, 0).holds(0, 0).wrote();
    }
}
