/** Promise 5: how an E is worked out. */
public final class NumbersTest {
    public static void main(String[] args) {
        order();
        integersWrap();
        reals();
        divisions();
        remainders();
        comparisons();
        wholes();
        limitsOfReals();
        rows();
        Desk.end();
    }

    private static void order() {
        Desk desk = new Desk();
        desk.works("1+2*3", 7).works("(1+2)*3", 9).works("9-3-2", 4).works("9-(3-2)", 8).works("8/2/2", 2);
        desk.works("8/(2/2)", 8).works("100%30%7", 3).works("100%(30%7)", 0).works("2*3%4", 2).works("7%4*2", 6);
        desk.works("1+1<3", 1).works("1+2=3*1", 1).works("(1<2)+(2<3)+(3<2)", 2).works("#7+1", 8).works("##7", 7);
        desk.works("007", 7).works("999", 999).works("0", 0).works("2-1*2+3*4-5", 7).works("1<(2<0)", 0);
    }

    private static void integersWrap() {
        Desk desk = new Desk().has(0, "a=256*256*256*128-1");
        desk.runs(0, 1).holds(0, 2147483647.0);
        desk.works("a", 2147483647.0).works("a+1", -2147483648.0).works("0-a-1", -2147483648.0);
        desk.works("0-a-2", 2147483647.0).works("a*a", 1).works("a*2", -2).works("999*999*999*999", 999L * 999 * 999 * 999 << 32 >> 32);
        desk.works("(a+1)%(0-1)", 0).works("(0-a-1)*(0-1)", -2147483648.0);
        desk.works("(0-a-1)<a", 1).works("a<(0-a-1)", 0);
    }

    private static void reals() {
        Desk desk = new Desk().sets(4, 2.5).sets(5, -0.75).sets(0, 3);
        desk.works("r+1", 3.5).works("1-r", -1.5).works("r*2", 5).works("r*s", -1.875).works("a+r", 5.5).works("a-a*r", -4.5);
        desk.works("r-r", 0).works("s*0", -0.0).works("1/3", 1.0 / 3).works("a/2", 1.5).works("1/3+1/3", 1.0 / 3 + 1.0 / 3);
        desk.has(0, "r=a;s=a/2;t=a<4").runs(0, 3).holds(4, 3).holds(5, 1.5).holds(6, 1);
        desk.works("(0-1)/4", -0.25).works("6/3", 2).works("0/5", 0);
    }

    private static void divisions() {
        Desk desk = new Desk();
        desk.worksNot("1/0", Desk.ARITHMETIC).worksNot("0/0", Desk.ARITHMETIC).worksNot("1/r", Desk.ARITHMETIC);
        desk.worksNot("r/r", Desk.ARITHMETIC).worksNot("1/(r*(0-1))", Desk.ARITHMETIC).worksNot("1/(2-2)", Desk.ARITHMETIC);
        desk.works("0/1", 0).works("r/1", 0);
    }

    private static void remainders() {
        Desk desk = new Desk();
        desk.works("7%3", 1).works("(0-7)%3", -1).works("7%(0-3)", 1).works("(0-7)%(0-3)", -1).works("6%3", 0);
        desk.works("(0-6)%3", 0).works("2%5", 2).works("0%5", 0);
        desk.worksNot("1%0", Desk.ARITHMETIC).worksNot("0%0", Desk.ARITHMETIC).worksNot("1%(1-1)", Desk.ARITHMETIC);
    }

    private static void comparisons() {
        Desk desk = new Desk().sets(4, 1.5).sets(5, 1.0);
        desk.works("1<2", 1).works("2<1", 0).works("1<1", 0).works("1=1", 1).works("1=2", 0).works("r<2", 1).works("1<r", 1);
        desk.works("2<r", 0).works("r<1", 0).works("r=1", 0).works("s=1", 1).works("1=s", 1).works("r=r", 1).works("r<r", 0);
        desk.works("1/3*3=1", 1).works("1/2=r-1", 1).works("1/4=r-s", 0).works("0=t*(0-1)", 1);
    }

    private static void wholes() {
        Desk desk = new Desk();
        double[][] pairs = {{2.9, 2}, {-2.9, -2}, {0.5, 0}, {-0.5, 0}, {-0.0, 0}, {3, 3}, {-1000, -1000}, {999.999, 999}};
        for (double[] pair : pairs) {
            desk.sets(4, pair[0]).works("#r", pair[1]).works("#r+0", pair[1]);
        }
        desk.has(0, "a=256*256*256*128-1;r=a;s=0-a-1").runs(0, 3).holds(4, 2147483647.0).holds(5, -2147483648.0);
        desk.works("#r", 2147483647.0).works("#s", -2147483648.0).works("#a", 2147483647.0).works("#r+1", -2147483648.0);
        desk.works("#(7/2)", 3).works("#(0-7/2)", -3).works("#7/2", 3.5);
    }

    private static void limitsOfReals() {
        Desk desk = new Desk().sets(4, 1000).sets(0, 1000);
        desk.works("r*r*r", 1e9).works("0-r*r*r", -1e9).works("r*r*r-1/2", 1e9 - 0.5).works("a*a*a/1", 1e9);
        desk.worksNot("r*r*r+1/8", Desk.ARITHMETIC).worksNot("0-r*r*r-1/8", Desk.ARITHMETIC).worksNot("r*r*r*r", Desk.ARITHMETIC);
        desk.worksNot("(a*a*a+1)/1", Desk.ARITHMETIC).worksNot("r*r*r/(1/2)", Desk.ARITHMETIC).worksNot("(0-a*a*a-1)/1", Desk.ARITHMETIC);
        desk.worksNot("a*a*a+1+r-r", Desk.ARITHMETIC).worksNot("(0-a*a*a-1)*r", Desk.ARITHMETIC).works("a*a*a+1", 1e9 + 1);
        desk.has(0, "r=a*a*a+1").runs(0, 1).holds(4, 1e9 + 1).works("r", 1e9 + 1).works("#r", 1e9 + 1).works("r=a*a*a+1", 1);
        desk.worksNot("r+0", Desk.ARITHMETIC).worksNot("r*1", Desk.ARITHMETIC).worksNot("r/1", Desk.ARITHMETIC).works("r-1", 1e9);
        desk.works("r/2", 5e8 + 0.5);
        tinyDivisor();
    }

    private static void tinyDivisor() {
        Desk desk = new Desk().sets(4, 0.001).has(0, "@a<6{a=a+1;r=r*r};s=1/r;t=1").fails(0, Desk.ARITHMETIC);
        desk.holds(5, 0).holds(6, 0).counts(3, 20);
    }

    private static void rows() {
        Desk desk = new Desk().has(0, "v[0]=5;v[1]=6;v[2]=7;v[3]=8").runs(0, 4);
        desk.holds(7, 5).holds(8, 6).holds(9, 7).holds(10, 8).works("v[0]+v[3]*10", 85).works("v[v[0]-4]", 6);
        desk.worksNot("v[4]", Desk.INDEX).worksNot("v[0-1]", Desk.INDEX).worksNot("v[999*999]", Desk.INDEX).worksNot("v[v[0]]", Desk.INDEX);
        desk.has(0, "v[4]=1").fails(0, Desk.INDEX).has(0, "v[0-1]=1").fails(0, Desk.INDEX);
        desk.holds(7, 5).holds(8, 6).holds(9, 7).holds(10, 8).holds(6, 0);
        desk.has(0, "v[v[1]-5]=v[1]*2").runs(0, 1).holds(8, 12);
    }
}
