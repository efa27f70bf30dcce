/** Promise 3: compile; the grammar and the TYPES of the terms. PlaceEdges has DEPTH and the ends of texts. */
public final class CompileTest {
    public static void main(String[] args) {
        wrongNumberLeavesTheText();
        badTextChangesNothingElse();
        countsStatements();
        everyStatementIsRead();
        placesOfCharacters();
        placesOfTypes();
        rightTypes();
        Desk.end();
    }

    private static void wrongNumberLeavesTheText() {
        Desk desk = new Desk().types("a=");
        for (int k : new int[] {-1, 4, Integer.MIN_VALUE, Integer.MAX_VALUE}) {
            Desk.dueThrow("compile(" + k + ")", () -> desk.it().compile(k), Desk.BAD);
            desk.counts(1, 2).counts(0, -1).counts(2, 0);
        }
        desk.has(3, "5", 1).counts(1, 0).counts(2, 1).runs(3, 1).holds(0, 5);
    }

    private static void badTextChangesNothingElse() {
        Desk desk = new Desk().has(0, "!1", 1);
        desk.refuses("!1;x", 3).counts(1, 0).counts(2, 1).runs(0, 1).wrote(1);
        desk.refuses("a=r", 3).counts(1, 0).runs(0, 1).wrote(1);
        desk.has(0, "!2;!3", 2).counts(0, 3).counts(2, 1).runs(0, 2).wrote(2, 3);
    }

    private static void countsStatements() {
        Desk desk = new Desk();
        desk.has(0, "a=1", 1).has(0, "a=1;b=2", 2).has(0, "?a{!1}", 2).has(0, "@a{!1;!2}", 3);
        desk.has(0, "&{!1|!2}", 3).has(0, "&{!1;!2|?1{!3};!4};!5", 7).has(0, "W0;S1;P3", 3);
        desk.has(0, "?1{?1{?1{?1{?1{P0}}}}}", 6);
        desk.has(0, "S0;S0;S0;S0;S0;S0;S0;S0;S0;S0;S0;S0;S0;S0;S0;S0", 16);
    }

    private static void everyStatementIsRead() {
        Desk desk = new Desk();
        for (String one : new String[] {"a", "b", "c", "d", "r", "s", "t", "v[0]"}) {
            desk.has(0, one + "=1", 1).has(0, "!" + one, 1);
        }
        desk.has(0, "W0", 1).has(0, "W1", 1).has(0, "S0", 1).has(0, "S1", 1);
        for (int k = 0; k < 4; k++) {
            desk.has(0, "P" + k, 1);
        }
        desk.has(0, "!0", 1).has(0, "!00", 1).has(0, "!007", 1).has(0, "!999", 1);
        desk.has(0, "!a<b", 1).has(0, "!a=b", 1).has(0, "!(a<b)=(c<d)", 1).has(0, "v[v[v[a=b]]]=v[1<2]", 1);
        desk.counts(0, -1);
    }

    private static void placesOfCharacters() {
        Desk desk = new Desk();
        desk.refuses("e=1", 0).refuses("q=1", 0).refuses("u=1", 0).refuses("A=1", 0).refuses("1=a", 0);
        desk.refuses(";", 0).refuses("a=1;;b=1", 4).refuses("}", 0).refuses("a=1}", 3).refuses("a=1|b=1", 3);
        desk.refuses("a+1", 1).refuses("a[1]=1", 1).refuses("v=1", 1).refuses("v[1]+1", 4).refuses("!v", 2);
        desk.refuses("!v+1", 2).refuses("!v(1)", 2).refuses("v(1)=1", 1).refuses("!", 1).refuses("!+1", 1);
        desk.refuses("!-1", 1).refuses("!1++1", 3).refuses("!1*", 3).refuses("!1*/2", 3).refuses("!a1", 2);
        desk.refuses("!1a", 2).refuses("!ab", 2).refuses("!1234", 4).refuses("!1.5", 2).refuses("!0000", 4);
        desk.refuses("!12(3)", 3).refuses("!1#2", 2).refuses("!(1", 3).refuses("!()", 2).refuses("!(1]", 3);
        desk.refuses("!v[1)", 4).refuses("!#", 2).refuses("!#+", 2).refuses("!1)", 2).refuses("!1]", 2);
        desk.refuses("!a<b<c", 4).refuses("!a=b=c", 4).refuses("a=b=c<d", 5).refuses("!a<b=c", 4);
        desk.refuses("!(a<b<c)", 5).refuses("?a=b=c{!1}", 4).refuses("!a>b", 2).refuses("!a<=b", 3);
        desk.refuses("W2", 1).refuses("W00", 2).refuses("S2", 1).refuses("Sa", 1).refuses("P4", 1).refuses("P33", 2);
        desk.refuses("w0", 0).refuses("s0", 1).refuses("?1!2", 2).refuses("?1{}", 3).refuses("?{!1}", 1);
        desk.refuses("@1{!1;}", 6).refuses("?1{!1|!2}", 5).refuses("?1{!1}!2", 6).refuses("@1{!1}}", 6);
        desk.refuses("&!1", 1).refuses("&1{!1|!2}", 1).refuses("&{|!1}", 2).refuses("&{!1}", 4);
        desk.refuses("&{!1|}", 5).refuses("&{!1|!2|!3}", 7).refuses("&{!1|!2}{", 8).refuses("&{!1;|!2}", 5);
        desk.refuses("&{a=1}", 5).refuses("AAAAAAAA", 0).refuses("!~", 1).refuses("~", 0);
    }

    private static void placesOfTypes() {
        Desk desk = new Desk();
        String[] wrong = {
            "a=r", "b=s", "c=t", "d=1/1", "a=a+r", "a=r-1", "a=2*t", "a=(r)", "a=#r+r", "v[0]=r", "v[r]=1", "v[1/1]=1",
            "!v[r]", "!v[r*2]", "?r{!1}", "@s{!1}", "?1/2{!1}", "@1+r{!1}", "!r%2", "!2%r", "!4/2%2", "!1%(r)", "a=r%2",
            "r=r%r", "!#(r%2)", "!1+2*3%(4/1)", "?1{a=r}", "&{!1|a=r}", "a=1;b=r;c=1", "a=1+2*r", "a=a*(b+r)", "!r*2%3"
        };
        for (String text : wrong) {
            desk.refuses(text, text.length());
        }
        desk.refuses("a=r;x", 4).refuses("a=r%2)", 5).refuses("!r%2+", 5).refuses("?r{!1", 5).refuses("v[r]+", 4);
        desk.refuses("a=r;!1234", 8).refuses("!r%((((((1", 8);
    }

    private static void rightTypes() {
        Desk desk = new Desk();
        String[] right = {
            "r=1", "r=a", "s=v[1]", "t=r", "r=1/2", "!r", "!1", "a=r<s", "a=r=1", "?r<1{!1}", "@1=t{!1}", "v[r<s]=r<s",
            "a=#r", "a=#(1/2)", "a=#r%3", "!7%#r", "a=#a", "v[#r]=#s", "?#r{!1}", "a=#(r+s)*2", "!#r/2", "a=(r<s)+1",
            "!7%2/2", "!7%2*r", "!1-(r<s)%2"
        };
        for (String text : right) {
            desk.has(0, text);
        }
        desk.counts(0, -1);
    }
}
