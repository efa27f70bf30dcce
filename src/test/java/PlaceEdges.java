/** The edges of DEPTH, of THE PLACE, and of Promises 2 and 3, which take a text in. */
final class PlaceEdges {
    private PlaceEdges() {
    }

    static void check() {
        Sentence.holds("Each [, (, # and { opens a DEPTH, till what it opened is over; at most 5 at a time.",
                PlaceEdges::fiveDepths);
        Sentence.holds("THE PLACE of a text that can't be read: its first character with which, after those before, "
                + "nothing right could begin", PlaceEdges::firstWrongCharacter);
        Sentence.holds("(the digits' fourth;", PlaceEdges::fourthDigit);
        Sentence.holds("the [, (, # or { that would open a sixth DEPTH),", PlaceEdges::sixthDepth);
        Sentence.holds("or its length, if just the end is wrong", PlaceEdges::wrongEnd);
        Sentence.holds("or only TYPES are.", PlaceEdges::onlyTypes);
        Sentence.holds("Adds the eight bytes of the number, highest first, those that are 0 left out, to THE TEXT.",
                PlaceEdges::eightBytes);
        Sentence.holds("One not 33 .. 126: bad;", PlaceEdges::everyByte);
        Sentence.holds("more than 48 in all: IllegalStateException; then none is added.", PlaceEdges::moreThan48);
        Sentence.holds("Answers its length.", PlaceEdges::answersItsLength);
        Sentence.holds("THE TEXT, empty then also if it's bad, becomes PROCEDURE k (0 .. 3; a wrong k is seen first, "
                + "and leaves it).", PlaceEdges::becomesProcedure);
        Sentence.holds("Answers how many STATEMENTS it has, those in BODIES too.", PlaceEdges::statementsThatItHas);
    }

    private static void fiveDepths() {
        Desk desk = new Desk().has(0, "!(((((7)))))", 1).refuses("!((((((7))))))", 6);
        desk.has(0, "!#####7", 1).refuses("!######7", 6);
        desk.has(0, "!v[v[v[v[v[0]]]]]", 1).refuses("!v[v[v[v[v[v[0]]]]]]", 12);
        desk.has(0, "v[v[v[v[v[0]]]]]=1", 1).refuses("v[v[v[v[v[v[0]]]]]]=1", 11);
        desk.has(0, "?1{?1{?1{?1{?1{S0}}}}}", 6).refuses("?1{?1{?1{?1{?1{?1{S0}}}}}}", 17);
        desk.has(0, "@1{@1{@1{@1{@1{S0}}}}}", 6).refuses("@1{@1{@1{@1{@1{@1{S0}}}}}}", 17);
        desk.has(0, "&{&{&{&{&{S0|S0}|S0}|S0}|S0}|S0}", 11).refuses("&{&{&{&{&{&{S0|S0}|S0}|S0}|S0}|S0}|S0}", 11);
        desk.has(0, "&{S0|&{S0|&{S0|&{S0|&{S0|S0}}}}}", 11).refuses("&{S0|&{S0|&{S0|&{S0|&{S0|&{S0|S0}}}}}}", 26);
        desk.has(0, "?1{@1{!v[(#7)]}}", 3).refuses("?1{@1{!v[(#(7))]}}", 11).refuses("?1{@1{!v[(##7)]}}", 11);
        tillItIsOver();
    }

    private static void tillItIsOver() {
        Desk desk = new Desk().has(0, "!(1)+(1)+(1)+(1)+(1)+(1)+(((((1)))))", 1).runs(0, 1).wrote(7);
        desk.has(0, "!#1+#1+#1+#1+#1+#1+#####1", 1).runs(0, 1).wrote(7);
        desk.has(0, "!v[0]+v[0]+v[0]+v[0]+v[0]+v[v[v[v[v[0]]]]]", 1).runs(0, 1).wrote(0);
        desk.has(0, "?1{S0};?1{S0};?1{S0};?1{S0};?1{S0};?1{!####7}", 12).runs(0, 12).wrote(7);
        desk.has(0, "?(((((1))))){!####7}", 2).has(0, "v[####0]=####7", 1).has(0, "&{!####7|!####8}", 3);
        desk.has(0, "!(#7+(((#7))))", 1).refuses("!(#7+(((##7))))", 9).has(0, "!(#v[0]*(((#7))))", 1);
        desk.refuses("!(#v[0]*(((##7))))", 12).has(0, "!##123+#####a", 1).refuses("!##123+######a", 12);
        desk.has(0, "!#(((#7)))*#####7", 1).refuses("?1{S0};!((((((7", 13);
        // The first BODY of a BOTH is over when the second begins.
        desk.has(0, "&{?1{?1{?1{?1{S0}}}}|?1{?1{?1{?1{S0}}}}}", 11).refuses("&{S0|?1{?1{?1{?1{?1{S0}}}}}}", 19);
        desk.refuses("&{?1{?1{?1{?1{?1{S0}}}}}|S0}", 16);
    }

    private static void firstWrongCharacter() {
        Desk desk = new Desk().refuses("x", 0).refuses("~", 0).refuses("S0;x", 3).refuses("S0;S0;S0;S0;S0;x", 15);
        // Only the first counts, and what is right after it doesn't help.
        desk.refuses("x=1;y=2", 0).refuses("a=x;b=y", 2).refuses("a=1;b=x;y", 6).refuses("x;a=1", 0);
        desk.refuses("a=1;a=1;a=1;a=1;a=1;a=1;a=1;a=1;a=1;a=1;a=1;a=1x", 47);
        desk.refuses("a=1;a=1;a=1;a=1;a=1;a=1;a=1;a=1;a=1;a=1;a=1;a=x1", 46);
        desk.refuses("S0;?", 4).refuses("!1;!1=1=", 7).refuses("!(1<2<3)", 5).refuses("?a=b=c{S0}", 4);
        desk.refuses("!a)", 2).refuses("!(a))", 4).refuses("!v[a]]", 5).refuses("?1{S0}}", 6).refuses("&{S0|S0}|", 8);
        // A wrong character is told, be the TYPES before it right or wrong.
        desk.refuses("a=r;x", 4).refuses("a=1;x", 4).refuses("!r%2)", 4).refuses("v[r]+", 4).refuses("?r{x", 3);
    }

    private static void fourthDigit() {
        Desk desk = new Desk().has(0, "!123", 1).refuses("!1234", 4).refuses("!0000", 4).refuses("!12345", 4);
        desk.has(0, "a=123+456", 1).refuses("a=123+4567", 9).refuses("a=1234+4567", 5);
        desk.has(0, "v[000]=999", 1).refuses("v[0000]=999", 5).refuses("v[000]=9999", 10);
        desk.refuses("?1000{S0}", 4).refuses("!#1000", 5).refuses("!(1000)", 5).refuses("!1<1000", 6);
    }

    private static void sixthDepth() {
        String[] opened = {
            "!(((((", "!(####", "!v[v[v[v[v[", "!(#(#(", "!#(#(#", "!v[(v[#(", "v[(#v[(", "?1{?1{?1{!((", "&{S0|&{S0|&{S0|!##",
            "@#1{!(((("
        };
        for (String five : opened) {
            new Desk().refuses(five + "(7", five.length()).refuses(five + "#7", five.length());
            new Desk().refuses(five + "v[0", five.length() + 1).refuses(five + "7", five.length() + 1);
        }
        for (String five : new String[] {"?1{?1{?1{?1{?1{", "@1{@1{@1{@1{@1{", "&{S0|&{S0|&{S0|&{S0|&{S0|"}) {
            int end = five.length();
            new Desk().refuses(five + "?1{S0", end + 2).refuses(five + "@1{S0", end + 2).refuses(five + "&{S0", end + 1);
            new Desk().refuses(five + "v[0]=1", end + 1).refuses(five + "!(1", end + 1).refuses(five + "!#1", end + 1);
            new Desk().refuses(five + "!v[0", end + 2).refuses(five + "?(1){S0", end + 1).refuses(five + "S0", end + 2);
        }
    }

    private static void wrongEnd() {
        String[] begun = {
            "", "a", "a=", "S0;", "v", "v[", "v[1", "v[1]", "v[1]=", "?", "?1", "?1{", "?1{S0", "?1{S0;", "@", "@1", "@1{",
            "@1{S0", "!", "!(", "!(1", "!#", "!1+", "!1-", "!1*", "!1/", "!1%", "!1<", "!1=", "!v", "!v[", "!v[1", "W", "S",
            "P", "&", "&{", "&{S0", "&{S0|", "&{S0|S0", "?1{S0;?1{S0}", "!((1)", "!(((((1))))", "!123+", "&{?1{S0}|S0;W"
        };
        Desk desk = new Desk();
        for (String text : begun) {
            desk.refuses(text, text.length());
        }
        desk.refuses("S0;S0;S0;S0;S0;S0;S0;S0;S0;S0;S0;S0;S0;S0;S0;S0;", 48);
        // With the right end they are right, and with a wrong one the place is its own.
        desk.has(0, "?1{S0}", 2).refuses("?1{S0)", 5).has(0, "!(1)", 1).refuses("!(1]", 3).has(0, "&{S0|W0}", 3);
        // The end is wrong, and so are TYPES.
        desk.refuses("a=r;", 4).refuses("?r{", 3).refuses("!r%", 3);
    }

    private static void onlyTypes() {
        Desk desk = new Desk();
        for (String text : new String[] {"a=r", "a=r;S0;S0", "!r%2+1+1", "v[r]=1;S0", "?r{S0};S0", "&{a=r|S0}", "a=1/1"}) {
            desk.refuses(text, text.length());
        }
        desk.refuses("a=r;a=1;a=1;a=1;a=1;a=1;a=1;a=1;a=1;a=1;a=1;a=12", 48);
        desk.refuses("a=r;a=1;a=1;a=1;a=1;a=1;a=1;a=1;a=1;a=1;a=1;a=x2", 46);
        desk.has(0, "a=#r", 1).counts(0, 46).refuses("a=r;x", 4).refuses("a=r;!1234", 8).refuses("a=r;!######1", 10);
    }

    private static void eightBytes() {
        Desk desk = new Desk();
        Desk.due("eight bytes", desk.it().type(Desk.pack("a=1;b=2;")), 8);
        Desk.due("none", desk.it().type(0), 8);
        for (int i = 0; i < 8; i++) {
            // One byte alone, at each of the eight places.
            long eight = (long) "c=34;d=5".charAt(i) << 8 * (i * 3 % 8);
            Desk.due("one byte", desk.it().type(eight), 9 + i);
        }
        Desk.due("zeros between", desk.it().type(0x3B00720000003D36L), 12 + 8);
        desk.has(0, "", 5).runs(0, 5).holds(0, 1).holds(1, 2).holds(2, 34).holds(3, 5).holds(4, 6);
    }

    private static void everyByte() {
        for (int sign = 0; sign <= 255; sign++) {
            for (int shift = 0; shift <= 56; shift += 8) {
                Desk desk = new Desk().types("!7");
                long eight = 0x2B2B2B2B2B2B2B2BL & ~(255L << shift) | (long) sign << shift;
                if (sign == 0) {
                    Desk.due("type with a 0", desk.it().type(eight), 9);
                } else if (sign >= 33 && sign <= 126) {
                    Desk.due("type with " + sign, desk.it().type(eight), 10);
                } else {
                    Desk.dueThrow("type with " + sign, () -> desk.it().type(eight), Desk.BAD);
                    desk.has(0, "", 1).runs(0, 1).wrote(7);
                }
            }
        }
        Desk.dueThrow("32 alone", () -> new Desk().it().type(32), Desk.BAD);
        Desk.due("33 alone", new Desk().it().type(33), 1);
        Desk.due("126 alone", new Desk().it().type(126), 1);
        Desk.dueThrow("127 alone", () -> new Desk().it().type(127), Desk.BAD);
    }

    private static void moreThan48() {
        String full = "a=1;a=1;a=1;a=1;a=1;a=1;a=1;a=1;a=1;a=1;a=1;b=98";
        for (int length = 40; length <= 48; length++) {
            for (int more = 0; more <= 8; more++) {
                Desk desk = new Desk().types(full.substring(0, length));
                String eight = "zzzzzzzz".substring(0, more);
                if (length + more > 48) {
                    desk.refusesToType(eight, Desk.STATE).types(full.substring(length)).has(0, "", 12).runs(0, 12).holds(1, 98);
                } else {
                    Desk.due(length + " and " + more, desk.it().type(Desk.pack(eight)), length + more);
                }
            }
        }
    }

    private static void answersItsLength() {
        Desk desk = new Desk();
        Desk.due("nothing", desk.it().type(0), 0);
        for (int i = 1; i <= 6; i++) {
            Desk.due("eight more", desk.it().type(Desk.pack("abcdefgh")), 8 * i);
        }
        Desk.due("nothing more", desk.it().type(0), 48);
        Desk.dueThrow("compile", () -> desk.it().compile(0), Desk.BAD);
        Desk.due("after a bad text", desk.it().type(Desk.pack("!7")), 2);
        Desk.due("a right text", desk.it().compile(0), 1);
        Desk.due("after a right text", desk.it().type(Desk.pack("!")), 1);
    }

    private static void becomesProcedure() {
        for (int k : new int[] {-1, 4, Integer.MIN_VALUE, Integer.MAX_VALUE}) {
            // A wrong k is seen first, be the text right, wrong or empty.
            for (String text : new String[] {"!7", "!x", ""}) {
                Desk desk = new Desk().has(0, "!5", 1).types(text);
                desk.unchangedBy("compile(" + k + ")", () -> desk.it().compile(k), Desk.BAD).counts(1, text.length());
                desk.counts(0, -1).counts(2, 1).runs(0, 1).wrote(5);
            }
            Desk desk = new Desk().types("!7");
            Desk.dueThrow("compile(" + k + ")", () -> desk.it().compile(k), Desk.BAD);
            desk.has(0, "8", 1).runs(0, 1).wrote(78);
        }
        for (int k = 0; k <= 3; k++) {
            int at = k;
            Desk desk = new Desk().has(k, "!7", 1).counts(1, 0).runs(k, 1).wrote(7).has(k, "!8", 1).runs(k, 1).wrote(8);
            desk.types("!x");
            Desk.dueThrow("compile of a bad text", () -> desk.it().compile(at), Desk.BAD);
            desk.counts(1, 0).counts(2, 1).runs(k, 1).wrote(8);
            Desk.dueThrow("compile of an empty text", () -> desk.it().compile(at), Desk.BAD);
            desk.counts(1, 0).counts(0, 0).runs(k, 1).wrote(8).types("a=r");
            Desk.dueThrow("compile of wrong TYPES", () -> desk.it().compile(at), Desk.BAD);
            desk.counts(1, 0).counts(0, 3).counts(2, 1).runs(k, 1).wrote(8);
        }
    }

    private static void statementsThatItHas() {
        Desk desk = new Desk().has(0, "S0", 1).has(0, "S0;W0", 2).has(0, "a=1;r=1;v[0]=1;!1;P0", 5).has(0, "?1{S0}", 2);
        desk.has(0, "@1{S0;S0}", 3).has(0, "&{S0|S0}", 3).has(0, "&{S0;S0|S0;S0};S0", 6).has(0, "?1{@1{&{S0|S0}}}", 5);
        desk.has(0, "?1{?1{?1{?1{?1{S0}}}}}", 6).has(0, "S0;S0;S0;S0;S0;S0;S0;S0;S0;S0;S0;S0;S0;S0;S0;S0", 16);
        for (String one : "a=1 t=1 v[3]=1 !1 W1 S1 P3".split(" ")) {
            desk.has(0, one, 1).has(0, one + ";" + one, 2).has(0, "?1{" + one + "}", 2).has(0, "@1{S0;" + one + "}", 3);
            desk.has(0, "&{" + one + "|" + one + "}", 3);
        }
        // What a called one has is not counted, nor what was read before.
        desk.has(1, "S0;S0;S0", 3).has(0, "P1", 1).refuses("S0;S0;S0;", 9).has(0, "S0", 1);
    }
}
