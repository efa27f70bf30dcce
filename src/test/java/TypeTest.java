/** Promise 2: type, and its order of Promise 10. */
public final class TypeTest {
    public static void main(String[] args) {
        addsHighestFirst();
        leavesZerosOut();
        refusesBytes();
        refusesTooMany();
        badComesFirst();
        Desk.end();
    }

    private static void addsHighestFirst() {
        Desk desk = new Desk();
        Desk.due("type a=b", desk.it().type(Desk.pack("a=1")), 3);
        Desk.due("type -2;!a", desk.it().type(Desk.pack("-2;!a")), 8);
        Desk.due("type eight", desk.it().type(Desk.pack(";!a;!a;!")), 16);
        Desk.due("type one", desk.it().type(Desk.pack("b")), 17);
        desk.counts(1, 17);
        Desk.due("compile", desk.it().compile(0), 5);
        desk.counts(1, 0).runs(0, 5).wrote(-1, -1, -1, 0);
    }

    private static void leavesZerosOut() {
        Desk desk = new Desk();
        Desk.due("type(0)", desk.it().type(0), 0);
        Desk.due("zeros between", desk.it().type(0x2100000031000000L), 2);
        Desk.due("zeros behind", desk.it().type(0x2B00000000000000L), 3);
        Desk.due("zeros before", desk.it().type(0x37L), 4);
        desk.has(0, "", 1).runs(0, 1).wrote(8);
    }

    private static void refusesBytes() {
        int[] wrong = {1, 9, 10, 31, 32, 127, 128, 200, 255};
        for (int sign : wrong) {
            for (int shift = 0; shift < 64; shift += 8) {
                Desk desk = new Desk().types("!1");
                long eight = Desk.pack("aaaaaaaa") & ~(255L << shift) | (long) sign << shift;
                Desk.dueThrow("type with byte " + sign, () -> desk.it().type(eight), Desk.BAD);
                desk.counts(1, 2).has(0, "", 1).runs(0, 1).wrote(1);
            }
        }
        Desk.due("type 33 and 126", new Desk().it().type(0x217EL), 2);
        Desk.dueThrow("type(-1)", () -> new Desk().it().type(-1), Desk.BAD);
    }

    private static void refusesTooMany() {
        Desk desk = new Desk().types("!1+2+3+4+5+6+7+8+9+1+2+3+4+5+6+7+8+9+1+2+3+4;");
        desk.counts(1, 45);
        Desk.dueThrow("49 characters", () -> desk.it().type(Desk.pack("!a;!")), Desk.STATE);
        Desk.dueThrow("53 characters", () -> desk.it().type(Desk.pack("!a;!b;!c")), Desk.STATE);
        desk.counts(1, 45);
        Desk.due("47 characters", desk.it().type(Desk.pack("!7")), 47);
        Desk.due("48 characters", desk.it().type(Desk.pack("8")), 48);
        Desk.due("48 and none", desk.it().type(0), 48);
        Desk.dueThrow("48 and one", () -> desk.it().type(Desk.pack("a")), Desk.STATE);
        desk.has(0, "", 2).runs(0, 2).wrote(100, 78);
        Desk.due("empty again", desk.it().type(Desk.pack("a")), 1);
    }

    private static void badComesFirst() {
        Desk desk = new Desk().types("!111111111111111111111111111111111111111111111111".substring(0, 48));
        Desk.dueThrow("bad and too many", () -> desk.it().type(Desk.pack("aaaaaaa ")), Desk.BAD);
        Desk.dueThrow("bad and too many", () -> desk.it().type(Desk.pack("aaaaaaa\u0080")), Desk.BAD);
        desk.counts(1, 48);
    }
}
