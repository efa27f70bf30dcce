/** The edges of how a text is read, and of the TYPES; a name of a method stands for its sentence. */
final class TextEdges {
    private static final double MAX = 2147483647.0;
    private static final double MIN = -2147483648.0;

    private TextEdges() {
    }

    static void check() {
        Sentence.holds("THE TEXT has at most 48 characters.", TextEdges::atMost48);
        Sentence.holds("VARIABLES: a .. d INTEGERS (ints, wrapping), r .. t REALS (doubles),", TextEdges::variables);
        Sentence.holds("v a ROW of four INTEGERS;", TextEdges::rowOfFour);
        Sentence.holds("all 0 at first, and kept from run to run.", TextEdges::zeroAndKept);
        Sentence.holds("SEMAPHORES 0 and 1.", TextEdges::twoSemaphores);
        Sentence.holds("PROCEDURES 0 .. 3 are none at first, or were compiled from a text:", TextEdges::fourProcedures);
        statements();
        outcomes();
        types();
    }

    private static void statements() {
        Sentence.holds("BODY: STATEMENT (; STATEMENT)*.", TextEdges::body);
        Sentence.holds("STATEMENT: one of a .. d, r .. t, or v [ E ], then = E: SETTING.", TextEdges::setting);
        Sentence.holds("? E { BODY }: IF.", TextEdges::ifBody);
        Sentence.holds("@ E { BODY }: LOOP.", TextEdges::loop);
        Sentence.holds("! E: WRITING.", TextEdges::writing);
        Sentence.holds("W and S, with a digit 0 or 1: WAIT and SIGNAL.", TextEdges::waitAndSignal);
        Sentence.holds("P and a digit 0 .. 3: CALL.", TextEdges::call);
        Sentence.holds("& { BODY | BODY }: BOTH.", TextEdges::both);
    }

    private static void outcomes() {
        Sentence.holds("E: SUM, or SUM (< or =) SUM.", TextEdges::oneComparison);
        Sentence.holds("SUM: TERM ((+ or -) TERM)*.", TextEdges::sum);
        Sentence.holds("TERM: UNIT ((* or / or %) UNIT)*.", TextEdges::term);
        Sentence.holds("UNIT: one to three digits; a .. d; r .. t; v [ E ]; ( E ); # UNIT.", TextEdges::unit);
    }

    private static void types() {
        Sentence.holds("TYPES: digits, a .. d, v [ E ] are INTEGER, r .. t REAL.", TextEdges::typesOfUnits);
        Sentence.holds("+ - *: of INTEGERS INTEGER, else REAL.", TextEdges::typesOfSums);
        Sentence.holds("/: REAL.", TextEdges::typeOfDivision);
        Sentence.holds("%: of INTEGERS only, INTEGER, what is left of a division towards zero (so -7 % 3 is -1).",
                TextEdges::remainder);
        Sentence.holds("< =: INTEGER, 1 or 0; if one is REAL, compared as REALS.", TextEdges::comparison);
        Sentence.holds("#: of a REAL, INTEGER (towards zero, at most the ends of the ints); of an INTEGER itself.",
                TextEdges::whole);
        Sentence.holds("In [ ], behind ? and @, and for a .. d and v: only INTEGER.", TextEdges::onlyIntegers);
        Sentence.holds("r .. t and ! take both (r .. t: as a REAL).", TextEdges::bothTypes);
    }

    private static void atMost48() {
        // The last of the 48 characters is part of a number, so that it is seen if it gets lost.
        Desk desk = new Desk().types("a=1;a=1;a=1;a=1;a=1;a=1;a=1;a=1;a=1;a=1;a=1;b=9").counts(1, 47);
        Desk.due("the 48th character", desk.it().type(Desk.pack("8")), 48);
        desk.refusesToType("7", Desk.STATE);
        desk.has(0, "", 12).runs(0, 12).holds(1, 98);
    }

    private static void variables() {
        Desk desk = new Desk();
        for (String one : "a b c d r s t".split(" ")) {
            desk.has(0, one + "=7", 1).has(1, "!" + one, 1).runs(0, 1).runs(1, 1).wrote(7);
        }
        for (String none : "` e q u w A D R".split(" ")) {
            desk.refuses(none + "=7", 0).refuses("!" + none, 1);
        }
        integersWrap();
        // Whose third part isn't that of a float, and who doesn't wrap.
        new Desk().has(0, "r=1/3;s=2;t=s*s*s*500*500*500").runs(0, 3).holds(4, 1.0 / 3).holds(6, 1e9);
    }

    private static void integersWrap() {
        for (int i : new int[] {0, 1, 2, 3}) {
            String one = "abcd".substring(i, i + 1);
            Desk desk = new Desk().has(0, one + "=256*256*256*128-1").has(1, one + "=" + one + "+1");
            desk.has(2, one + "=" + one + "-1").runs(0, 1).holds(i, MAX).runs(1, 1).holds(i, MIN);
            desk.runs(1, 1).holds(i, MIN + 1).runs(2, 1).holds(i, MIN).runs(2, 1).holds(i, MAX);
            desk.has(0, one + "=" + one + "*" + one).runs(0, 1).holds(i, 1);
        }
        Desk row = new Desk().has(0, "v[3]=256*256*256*128-1").has(1, "v[3]=v[3]+1").has(2, "v[3]=v[3]-1");
        row.runs(0, 1).holds(10, MAX).runs(1, 1).holds(10, MIN).runs(2, 1).holds(10, MAX);
        new Desk().works("256*256*256*127+256*256*255", 256.0 * 256 * (256 * 127 + 255)).works("256*256*256*128", MIN)
                .works("0-256*256*256*128", MIN).works("256*256*256*256", 0).works("0-256*256*256*128-1", MAX);
    }

    private static void rowOfFour() {
        Desk desk = new Desk().has(0, "v[0]=5;v[1]=6;v[2]=7;v[3]=8", 4).runs(0, 4);
        desk.holds(7, 5).holds(8, 6).holds(9, 7).holds(10, 8);
        desk.has(0, "v[4]=9").fails(0, Desk.INDEX).has(0, "v[0-1]=9").fails(0, Desk.INDEX);
        desk.holds(3, 0).holds(6, 0).holds(7, 5).holds(8, 6).holds(9, 7).holds(10, 8);
        desk.refuses("v[0]=r", 6).refuses("v=1", 1);
    }

    private static void zeroAndKept() {
        Desk desk = new Desk();
        for (int i = 0; i <= 10; i++) {
            desk.holds(i, 0);
        }
        desk.has(0, "a=a+1;d=d-1;r=r+1/4;t=t-1;v[0]=v[0]+2;v[3]=a");
        for (int n = 1; n <= 3; n++) {
            desk.runs(0, 6).holds(0, n).holds(1, 0).holds(3, -n).holds(4, n / 4.0).holds(6, -n).holds(7, 2 * n);
        }
        desk.has(1, "a=1%0").fails(1, Desk.ARITHMETIC).refuses("a=", 2).tape(3, 4);
        desk.holds(0, 3).holds(3, -3).holds(4, 0.75).holds(6, -3).holds(7, 6).holds(10, 3);
    }

    private static void twoSemaphores() {
        Desk desk = new Desk().has(0, "S0", 1).runs(0, 0, 0, 1).counts(5, 1).counts(6, 0);
        desk.has(0, "S1", 1).runs(0, 0, 0, 1).counts(5, 0).counts(6, 1);
        desk.has(0, "W0", 1).runs(0, 1, 1, 1).counts(5, 0).counts(6, 1);
        desk.has(0, "W1", 1).runs(0, 1, 1, 1).counts(5, 1).counts(6, 0);
        desk.refuses("S2", 1).refuses("W2", 1).refuses("S/", 1).refuses("W/", 1);
    }

    private static void fourProcedures() {
        for (int k = 0; k <= 3; k++) {
            Desk desk = new Desk().fails(k, Desk.MISSING).has(k, "!7", 1).counts(2, 1).runs(k, 1).wrote(7);
            for (int other = 0; other <= 3; other++) {
                if (other != k) {
                    desk.fails(other, Desk.MISSING).has(k, "P" + other, 1).fails(k, Desk.MISSING);
                }
            }
        }
        for (int k : new int[] {-1, 4}) {
            Desk desk = new Desk().types("!7").fails(k, Desk.BAD);
            Desk.dueThrow("compile(" + k + ")", () -> desk.it().compile(k), Desk.BAD);
        }
    }

    private static void body() {
        Desk desk = new Desk().has(0, "S0", 1).has(0, "S0;S0", 2);
        desk.has(0, "S0;S0;S0;S0;S0;S0;S0;S0;S0;S0;S0;S0;S0;S0;S0;S0", 16).runs(0, 16).counts(5, 16);
        desk.refuses("", 0).refuses(";", 0).refuses(";S0", 0).refuses("S0;", 3).refuses("S0;;S0", 3);
        desk.refuses("S0S0", 2).refuses("S0,S0", 2).refuses("S0:S0", 2).refuses("S0}", 2).refuses("S0|S0", 2);
    }

    private static void setting() {
        Desk desk = new Desk().has(0, "a=1", 1).has(0, "r=1", 1).has(0, "v[1]=1", 1);
        desk.has(0, "a=b=c", 1).runs(0, 1).holds(0, 1).has(0, "a=a=0", 1).runs(0, 1).holds(0, 0);
        desk.refuses("a", 1).refuses("a=", 2).refuses("a1", 1).refuses("a==1", 2).refuses("a<1", 1).refuses("1=a", 0);
        desk.refuses("v=1", 1).refuses("v[", 2).refuses("v[]=1", 2).refuses("v[1", 3).refuses("v[1]", 4);
        desk.refuses("v[1]1", 4).refuses("v[1]=", 5).refuses("v[1)=1", 3).refuses("v[1][1]=1", 4).refuses("a[1]=1", 1);
    }

    private static void ifBody() {
        Desk desk = new Desk().has(0, "?a{!7};!8", 3).runs(0, 2).wrote(8);
        desk.sets(0, 1).runs(0, 3).wrote(7, 8).sets(0, -1).runs(0, 3).wrote(7, 8).sets(0, 2).runs(0, 3).wrote(7, 8);
        desk.refuses("?", 1).refuses("?{!7}", 1).refuses("?1", 2).refuses("?1!7", 2).refuses("?1{", 3);
        desk.refuses("?1{}", 3).refuses("?1{!7", 5).refuses("?1{!7;}", 6).refuses("?1{!7|!8}", 5).refuses("?1{!7}}", 6);
        desk.refuses("?1(!7)", 2).refuses("?1{!7)", 5).refuses("?1{!7}!8", 6);
    }

    private static void loop() {
        Desk desk = new Desk().has(0, "@a{a=a-1};!a", 3).runs(0, 2).wrote(0);
        desk.sets(0, 1).runs(0, 4).wrote(0).sets(0, 9).runs(0, 20).wrote(0);
        desk.has(0, "@a<0{a=a+1}", 2).sets(0, -1).runs(0, 3).holds(0, 0);
        desk.refuses("@", 1).refuses("@{!7}", 1).refuses("@1", 2).refuses("@1!7", 2).refuses("@1{", 3);
        desk.refuses("@1{}", 3).refuses("@1{!7", 5).refuses("@1{!7;}", 6).refuses("@1{!7|!8}", 5).refuses("@1{!7}}", 6);
    }

    private static void writing() {
        Desk desk = new Desk().has(0, "!7", 1).runs(0, 1).wrote(7);
        desk.refuses("!", 1).refuses("!;", 1).refuses("!!7", 1).refuses("!7!7", 2).refuses("!S0", 1);
    }

    private static void waitAndSignal() {
        Desk desk = new Desk().has(0, "S0;W0;S1;W1", 4).runs(0, 4);
        for (String one : "W S".split(" ")) {
            desk.refuses(one, 1).refuses(one + "/", 1).refuses(one + "2", 1).refuses(one + "a", 1).refuses(one + "9", 1);
            desk.refuses(one + "00", 2).refuses(one + "10", 2).refuses(one + ";", 1).refuses(one + "(0)", 1);
        }
        desk.refuses("w0", 0).refuses("T0", 0).refuses("V0", 0).refuses("X0", 0).refuses("R0", 0);
    }

    private static void call() {
        Desk desk = new Desk();
        for (int k = 0; k <= 3; k++) {
            desk.has(k, "!" + k, 1);
        }
        for (int k = 1; k <= 3; k++) {
            desk.has(0, "P" + k, 1).runs(0, 2).wrote(k);
        }
        desk.has(0, "!4", 1).has(1, "P0", 1).runs(1, 2).wrote(4);
        desk.refuses("P", 1).refuses("P/", 1).refuses("P4", 1).refuses("P9", 1).refuses("Pa", 1).refuses("P00", 2);
        desk.refuses("p0", 0).refuses("O0", 0).refuses("Q0", 0);
    }

    private static void both() {
        Desk desk = new Desk().has(0, "&{!7|!8}", 3).runs(0, 3).wrote(7, 8);
        desk.refuses("&", 1).refuses("&!7", 1).refuses("&{", 2).refuses("&{}", 2).refuses("&{|!8}", 2);
        desk.refuses("&{!7", 4).refuses("&{!7}", 4).refuses("&{!7|", 5).refuses("&{!7|}", 5).refuses("&{!7|!8", 7);
        desk.refuses("&{!7|!8|!9}", 7).refuses("&{!7|!8}}", 8).refuses("&{!7;|!8}", 5).refuses("&1{!7|!8}", 1);
    }

    private static void oneComparison() {
        Desk desk = new Desk().works("2", 2).works("2<3", 1).works("2=3", 0).works("(2<3)<(2=2)", 0).works("(1<2)=1", 1);
        desk.refuses("!1<2<3", 4).refuses("!1=2=3", 4).refuses("!1<2=3", 4).refuses("!1=2<3", 4).refuses("a=b=c=d", 5);
        desk.refuses("!<1", 1).refuses("!=1", 1).refuses("!1<", 3).refuses("!1=", 3).refuses("!1<=2", 3);
        desk.refuses("!1==2", 3).refuses("!1>2", 2).refuses("!1;2", 3);
    }

    private static void sum() {
        Desk desk = new Desk().works("1", 1).works("1+2", 3).works("9-3-2", 4).works("9-(3-2)", 8).works("9-3+2", 8);
        desk.works("1+1+1+1+1+1+1+1+1+1+1+1+1+1+1+1+1+1+1+1+1+1+1", 23);
        desk.works("1-1-1-1-1-1-1-1-1-1-1-1-1-1-1-1-1-1-1-1-1-1-10", -30);
        desk.refuses("!+1", 1).refuses("!-1", 1).refuses("!1+", 3).refuses("!1-", 3).refuses("!1+-1", 3);
        desk.refuses("!1--1", 3).refuses("!1,1", 2).refuses("!1.1", 2);
    }

    private static void term() {
        Desk desk = new Desk().works("2", 2).works("2*3", 6).works("1+2*3", 7).works("8/2/2", 2).works("100%30%7", 3);
        desk.works("8/(2/2)", 8).works("100%(30%7)", 0).works("2*3%4", 2).works("7%4*2", 6).works("9-2*3-1", 2);
        desk.works("2*2*2*2*2*2*2*2*2*2*2*2*2*2*2*2*2*2*2*2*2*2*2", 8388608);
        desk.refuses("!*1", 1).refuses("!/1", 1).refuses("!%1", 1).refuses("!1*", 3).refuses("!1/", 3).refuses("!1%", 3);
        desk.refuses("!1**2", 3).refuses("!1%/2", 3).refuses("!2(3)", 2).refuses("!2a", 2).refuses("!ab", 2);
    }

    private static void unit() {
        Desk desk = new Desk().works("0", 0).works("9", 9).works("00", 0).works("99", 99).works("000", 0).works("999", 999);
        desk.works("010", 10).works("100", 100).refuses("!0000", 4).refuses("!1000", 4).refuses("!9999", 4);
        desk.refuses("!/", 1).refuses("!:", 1).refuses("!`", 1).refuses("!e", 1).refuses("!q", 1).refuses("!u", 1);
        desk.works("a", 0).works("d", 0).works("r", 0).works("t", 0).works("v[0]", 0).works("(7)", 7).works("#7", 7);
        desk.refuses("!v", 2).refuses("!v[", 3).refuses("!v[]", 3).refuses("!v[0", 4).refuses("!v[0)", 4).refuses("!v0", 2);
        desk.refuses("!(", 2).refuses("!()", 2).refuses("!(7", 3).refuses("!(7]", 3).refuses("!7)", 2).refuses("![0]", 1);
        desk.refuses("!#", 2).refuses("!#;", 2).refuses("!#+7", 2).refuses("!7#7", 2).works("##7", 7).works("#(7)", 7);
    }

    private static void right(Desk desk, String... texts) {
        for (String text : texts) {
            desk.has(0, text, 1).counts(0, -1);
        }
    }

    private static void wrongTypes(Desk desk, String... texts) {
        for (String text : texts) {
            desk.refuses(text, text.length());
        }
    }

    private static void typesOfUnits() {
        Desk desk = new Desk();
        right(desk, "a=0", "a=999", "b=a", "b=b", "b=c", "b=d", "c=v[0]", "d=(a)", "r=r", "r=s", "r=t");
        wrongTypes(desk, "a=r", "b=s", "c=t", "d=(r)", "a=((t))");
    }

    private static void typesOfSums() {
        for (String sign : "+ - *".split(" ")) {
            Desk desk = new Desk();
            right(desk, "a=b" + sign + "c", "a=1" + sign + "v[0]", "r=b" + sign + "c", "r=b" + sign + "s", "r=s" + sign + "t");
            wrongTypes(desk, "a=b" + sign + "r", "a=r" + sign + "b", "a=r" + sign + "s", "a=b" + sign + "c" + sign + "r");
        }
        Desk desk = new Desk().has(0, "a=256*256*256*128-1;t=1").runs(0, 2);
        // An INTEGER wraps; a REAL outcome is too much.
        desk.works("a+1", MIN).worksNot("a+t", Desk.ARITHMETIC).worksNot("t+a", Desk.ARITHMETIC);
        desk.works("0-a-2", MAX).worksNot("0-a-t", Desk.ARITHMETIC).worksNot("t-a", Desk.ARITHMETIC);
        desk.works("a*2", -2).worksNot("a*t", Desk.ARITHMETIC).worksNot("t*a", Desk.ARITHMETIC);
    }

    private static void typeOfDivision() {
        Desk desk = new Desk().has(0, "r=4/2", 1).runs(0, 1).holds(4, 2).works("7/2", 3.5).works("(0-7)/2", -3.5);
        desk.sets(4, 7).works("r/2", 3.5).works("7/(2+0)", 3.5).works("6/3", 2).works("1/3*3", 1.0 / 3 * 3);
        wrongTypes(desk, "a=4/2", "a=r/2", "a=4/r", "?4/2{S0}", "v[4/2]=1", "v[0]=4/2", "!4/2%2", "a=1+4/2");
    }

    private static void remainder() {
        Desk desk = new Desk();
        right(desk, "a=7%3", "a=b%c", "a=v[0]%7", "a=#r%3", "a=7%#r", "r=7%3");
        wrongTypes(new Desk(), "!r%3", "!7%r", "!r%s", "!7/1%3", "!7%(3/1)", "r=r%1", "!2*r%3");
        desk.works("(0-7)%3", -1).works("7%3", 1).works("7%(0-3)", 1).works("(0-7)%(0-3)", -1).works("(0-6)%3", 0);
        desk.works("2%3", 2).works("3%3", 0).works("4%3", 1).works("(0-2)%3", -2).works("(0-3)%3", 0).works("7%1", 0);
        desk.has(0, "a=256*256*256*128").runs(0, 1).works("a%(0-1)", 0).works("a%2", 0).works("(a+1)%2", -1);
        desk.works("(a-1)%2", 1).works("(a-1)%a", MAX).works("a%a", 0).works("a%(a-1)", -1);
    }

    private static void comparison() {
        Desk desk = new Desk();
        right(desk, "a=1<2", "a=r<2", "a=2<r", "a=r<s", "a=b=2", "a=r=2", "a=2=r", "a=r=s");
        desk.works("1<2", 1).works("2<2", 0).works("3<2", 0).works("1=2", 0).works("2=2", 1).works("3=2", 0);
        desk.sets(4, 1.5).works("1<r", 1).works("r<2", 1).works("2<r", 0).works("r<1", 0).works("r=1", 0).works("1=r", 0);
        desk.sets(4, Math.nextUp(1.0)).works("1<r", 1).works("r=1", 0).works("r<1", 0);
        desk.sets(4, Math.nextDown(1.0)).works("r<1", 1).works("r=1", 0).works("1<r", 0).sets(4, 1).works("r=1", 1);
        desk.sets(4, -0.0).works("r=0", 1).works("r<0", 0).works("0<r", 0);
        desk.has(0, "a=256*256*256*128-1;b=a+1").runs(0, 2).works("b<a", 1).works("a<b", 0).works("a=b", 0);
        desk.works("a-1<a", 1).works("b=b+0", 1).works("a<a", 0);
    }

    private static void whole() {
        Desk desk = new Desk();
        right(desk, "a=#r", "a=#a", "a=#7", "v[#r]=#s", "a=#(1/2)", "a=##r", "a=#v[0]");
        double[][] pairs = {{2.9, 2}, {-2.9, -2}, {2, 2}, {-2, -2}, {0.999, 0}, {-0.999, 0}, {-0.0, 0}, {-1.5, -1}};
        for (double[] pair : pairs) {
            desk.sets(4, pair[0]).works("#r", pair[1]);
        }
        // No REAL can be beyond the ends of the ints: outcomes end at 1000000000.0, and it is set to INTEGERS.
        desk.has(0, "a=256*256*256*128-1;b=a+1;r=a;s=b").runs(0, 4).holds(4, MAX).holds(5, MIN);
        desk.works("#r", MAX).works("#s", MIN).works("#r+1", MIN).works("#s-1", MAX).works("#a", MAX).works("#b", MIN);
        desk.works("#(s/4)", MIN / 4).works("#(r/4)", 536870911).works("#(s/4-1/2)", MIN / 4);
    }

    private static void onlyIntegers() {
        wrongTypes(new Desk(), "!v[r]", "v[r]=1", "v[1/1]=1", "!v[v[r]]", "!1+v[0+s]");
        wrongTypes(new Desk(), "?r{S0}", "?1/1{S0}", "?(r){S0}", "@r{S0}", "@1/1{S0}", "@a+t{S0}");
        wrongTypes(new Desk(), "a=r", "b=r", "c=r", "d=r", "v[0]=r", "v[3]=1/1");
        wrongTypes(new Desk(), "S0;a=r;S0", "?1{a=r}", "@1{?r{S0}}", "&{a=r|S0}", "&{S0|a=r}");
        right(new Desk(), "!v[a]", "v[#r]=1", "!v[r<1]", "a=#r", "b=r<s", "c=r=1", "d=#(1/1)", "v[0]=#r");
        new Desk().has(0, "?#r{S0}", 2).has(0, "?r<1{S0}", 2).has(0, "@#r{S0}", 2).has(0, "@r=1{S0}", 2).counts(0, -1);
    }

    private static void bothTypes() {
        Desk desk = new Desk();
        right(desk, "!7", "!a", "!v[0]", "!r", "!1/2", "!r<s");
        for (String one : "r s t".split(" ")) {
            right(desk, one + "=7", one + "=a", one + "=v[0]", one + "=r", one + "=1/2", one + "=r<s");
        }
        desk.has(0, "a=256*256*256*128-1;r=a;s=7;t=1<2").runs(0, 4).holds(4, MAX).holds(5, 7).holds(6, 1);
        // A REAL does not wrap, but its outcome is too much.
        desk.works("a+1", MIN).worksNot("r+1", Desk.ARITHMETIC).works("r", MAX).works("s/2", 3.5);
    }
}
