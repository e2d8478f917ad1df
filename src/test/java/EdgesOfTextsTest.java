/** The bounds of promises 37 to 41, and of what 'Equations', 'Kinds' and 'Free words' say. */
public final class EdgesOfTextsTest {
    private static final String ILLEGAL = "IllegalArgumentException";
    private static final String STATE = "IllegalStateException";
    private static final String UNSUPPORTED = "UnsupportedOperationException";
    private static final int[] STAY = {0, 1, 2, 3, 4, 5};
    private static final int[] TO_NONE = {-1, -1, -1, -1, -1, -1};

    public static void main(String[] args) {
        promise37Signs();
        promise37FullText();
        promise37TextIsFreeAgain();
        promise38ShortestAndLongest();
        promise38TwoSides();
        promise38AtLeastOneFactor();
        promise38Brackets();
        promise38OnePowerBehind();
        promise38OtherSigns();
        promise38LettersThatAreNotInIt();
        promise38TheFirstOnes();
        promise38FortyThousandWays();
        promise38MoreThanFortyThousandWays();
        promise38OneWay();
        promise39Kinds();
        promise39OneElement();
        promise39EachPeriodIsOne();
        promise39JustOneInverse();
        promise39OneElementAClass();
        promise39OneIdempotentAndAZero();
        promise39Others();
        promise40Kinds();
        promise40Sides();
        promise40ShortestAndLongest();
        promise40EachLetter();
        promise40FirstGreaterLetter();
        promise40NoLettersLeft();
        promise41WithoutAGroup();
        promise41OneAndMany();
        Check.end();
    }

    private static Eggboxery chain() {
        return Check.maps(6, Check.g(1, 2, 3, 4, 5, -1));
    }

    private static Eggboxery one() {
        return Check.maps(1, Check.g(0));
    }

    private static Object failsOf(Eggboxery x, String text) {
        Check.text(x, text);
        return Check.answerOf(x::fails);
    }

    private static Object sameOf(String text, char kind) {
        Eggboxery x = new Eggboxery();
        Check.text(x, text);
        return Check.answerOf(() -> x.areSame(kind));
    }

    // ---- 37: "'x', 'y', 'z', '=', '^', '(', ')', or a to d"; "if it has 24" ----

    private static void promise37Signs() {
        for (int sign = 0; sign < 256; sign++) {
            char asked = (char) sign;
            Object due = "xyz=^()abcd".indexOf(asked) >= 0 ? (Object) 1 : "throws." + ILLEGAL;
            Check.due("37 sign " + sign, Check.answerOf(() -> new Eggboxery().sign(asked)), due);
        }
        Check.refused("37 the greatest sign", ILLEGAL, () -> new Eggboxery().sign((char) 65535));
        Check.refused("37 a, but 256 on", ILLEGAL, () -> new Eggboxery().sign((char) ('a' + 256)));
    }

    private static void promise37FullText() {
        Eggboxery x = new Eggboxery();
        for (int count = 1; count <= 24; count++) {
            Check.due("37 there is room for the sign " + count, x.sign('x'), count);
        }
        Check.refused("37 there is none for 25", STATE, () -> x.sign('x'));
        Check.refused("37 nor for another one", STATE, () -> x.sign('d'));
        Check.refused("37 what is listed first", ILLEGAL, () -> x.sign('e'));
        Check.due("37 the row has room of its own", x.type(0), 1);
        Check.due("37 twenty-four and one", x.wipe(), 25);
        Eggboxery y = new Eggboxery();
        for (int count = 0; count < 20; count++) {
            y.type(0);
        }
        Check.due("37 a full row takes none of it", y.sign('x'), 1);
    }

    private static void promise37TextIsFreeAgain() {
        Eggboxery x = new Eggboxery();
        for (int round = 0; round < 2; round++) {
            for (int count = 1; count <= 24; count++) {
                Check.due("37 sign", x.sign('('), count);
            }
            x.wipe();
        }
        x.sign('x');
        x.type(0);
        x.generator();
        Check.due("37 a generator leaves the text", x.sign('='), 2);
        x.begin('r', 1);
        Check.due("37 begin leaves it, too", x.sign('x'), 3);
    }

    // ---- 38: "A text of at most 24 signs has two sides with '=' between, each a row of factors, at least one" ----

    private static void promise38ShortestAndLongest() {
        Eggboxery x = Check.constants();
        Check.due("38 three signs", failsOf(x, "x=x"), -1);
        Check.due("38 two signs", failsOf(x, "x="), "throws." + UNSUPPORTED);
        Check.due("38 one sign", failsOf(x, "="), "throws." + UNSUPPORTED);
        Check.due("38 an empty text", failsOf(x, ""), "throws." + UNSUPPORTED);
        Check.due("38 twenty-three signs", failsOf(x, "(xy)^(xy)=(xy)^(xy)(xy)"), -1);
        Check.due("38 twenty-four signs", failsOf(x, "(xy)^(xy)=(xy)^(xy)^(xy)"), -1);
        Check.due("38 twenty-four that do not hold", failsOf(x, "xxxxxxxxxxxxxxxxxxxxxx=y"), 200);
        Check.due("38 and the other way about", failsOf(x, "y=xxxxxxxxxxxxxxxxxxxxxx"), 200);
        Check.due("38 twenty-four without a second side", failsOf(x, "xxxxxxxxxxxxxxxxxxxxxxx="),
                "throws." + UNSUPPORTED);
        Check.due("38 twenty-four without any", failsOf(x, "xxxxxxxxxxxxxxxxxxxxxxxx"), "throws." + UNSUPPORTED);
    }

    private static void refusedForms(String why, String... texts) {
        Eggboxery x = one();
        for (String text : texts) {
            Check.due("38 " + why + " " + text, failsOf(x, text), "throws." + UNSUPPORTED);
            Check.due("38 the text stays", x.wipe(), text.length());
        }
    }

    private static void heldForms(String why, String... texts) {
        Eggboxery x = one();
        for (String text : texts) {
            Check.due("38 " + why + " " + text, failsOf(x, text), -1);
        }
    }

    private static void promise38TwoSides() {
        refusedForms("one side", "x", "xy", "x^", "(x)");
        refusedForms("three sides", "x=x=x", "x==x", "x=x=", "=x=x", "x=y=z");
        refusedForms("'=' in brackets", "(x=x)", "x(=)x", "(x=y)=z");
        heldForms("two sides", "x=x", "xy=z", "(x)=(y)", "x^=y^");
    }

    private static void promise38AtLeastOneFactor() {
        refusedForms("a side without a factor", "=", "x=", "=x", "(=x", "^=x", "x=^", "x=)");
        refusedForms("brackets without a factor", "()=x", "x=()", "x()=x", "(x())=x", "((()))=x", "()^=x", "(^)=x");
        heldForms("brackets with one", "(x)=x", "((x))=x", "x(x)=x", "(x(y))=z");
    }

    private static void promise38Brackets() {
        refusedForms("an open one", "(x=x", "x=(x", "((x)=x", "x=((x)", "x(=x)", "((((((((((((((((((((((x=");
        refusedForms("a closed one", "x)=x", "x=x)", "(x))=x", "x=(x))", ")x(=x", "x)(x=x", "x=x)(");
        heldForms("as deep as it goes", "((((((((((x))))))))))=x", "((((((((((x))))))))))^=x",
                "x=((((((((((x))))))))))^", "(((((x)))))=(((((x)))))");
        Eggboxery x = Check.powers();
        Check.due("38 a power of all of it", failsOf(x, "((((((((((x))))))))))^=x"), 0);
        Check.due("38 a power deep inside", failsOf(x, "((((((((((x^))))))))))=x"), 0);
        Check.due("38 and it is one", failsOf(x, "(((((((((x^)))))))))=x^"), -1);
    }

    private static void promise38OnePowerBehind() {
        refusedForms("two powers", "x^^=x", "x=x^^", "(x)^^=x", "x=(x^^)");
        refusedForms("a power of nothing", "^x=x", "x=^x", "(^x)=x", "x(^)=x", "x=^");
        heldForms("a power behind each", "x^=x", "x=x^", "(x)^=x", "(x^)^=x", "((x^)^)^=x", "x^y^z^=(xyz)^");
    }

    private static void promise38OtherSigns() {
        refusedForms("letters of the free ones", "a=a", "xa=x", "x=xd", "b=x", "(c)=x", "x^d=x");
        Check.due("38 not all is known: no generator", failsOf(new Eggboxery(), "x=x"), "throws." + UNSUPPORTED);
        Check.due("38 not all is known: too many", failsOf(Check.tooMany(), "x=x"), "throws." + UNSUPPORTED);
    }

    /** "Returns those of x, y and z, .. 0 for letters that are not in it; -1 if it holds." */
    private static void promise38LettersThatAreNotInIt() {
        // Two constants, then a swap: this alone is not its own omega power.
        Eggboxery x = Check.maps(2, Check.g(0, 0), Check.g(1, 1), Check.g(1, 0));
        Check.due("38 four elements", x.size(), 4);
        Check.due("38 x alone", failsOf(x, "x^=x"), 2);
        Check.due("38 y alone", failsOf(x, "y^=y"), 400);
        Check.due("38 z alone", failsOf(x, "z^=z"), 80000);
        Check.due("38 without x", failsOf(x, "y^z^=yz"), 2 * 40000);
        Check.due("38 without y", failsOf(x, "x^z^=xz"), 2 * 40000);
        Check.due("38 without z", failsOf(x, "x^y^=xy"), 2 * 200);
        Check.due("38 a letter on one side alone", failsOf(x, "x=y"), 200);
        Check.due("38 three letters, one side each", failsOf(x, "xy=z"), 40000);
        Check.due("38 it holds", failsOf(x, "xyz=x(yz)"), -1);
        Check.due("38 the first of all fail", failsOf(chain(), "x=xx"), 0);
    }

    /** "z rising first, then y". */
    private static void promise38TheFirstOnes() {
        // What leads to none, a swap of the point 0 with 1, and its square.
        Eggboxery x = Check.maps(3, Check.g(-1, -1, -1), Check.g(1, 0, -1));
        Check.due("38 three elements", x.size(), 3);
        Check.due("38 x rises last", failsOf(x, "xy^=x^y"), 1 + 200 * 2);
        Check.due("38 y rises behind z", failsOf(x, "yz^=y^z"), 200 + 40000 * 2);
        Check.due("38 with all three", failsOf(x, "xyz^=xy^z"), 1 + 200 + 40000 * 2);
        Check.due("38 names changed", failsOf(x, "zy^=z^y"), 200 + 40000 * 2);
    }

    // ---- 38: "there are more than 40000 ways to put elements in place of its letters" ----

    private static void promise38FortyThousandWays() {
        Shop less = Shop.maps("199", 6, Check.g(1, 3, 5, 4, 0, 0), Check.g(1, 5, 3, 2, 5, 5)).withText("xz=zx");
        Check.due("38 199 by 199", less.make().fails(), less.model().fails());
        Shop most = Shop.maps("200", 6, Check.g(1, 3, 5, 4, 0, 0), Check.g(1, 5, 3, 2, 5, 5), STAY).withText("yx=xy");
        Eggboxery x = most.make();
        Check.due("38 200 elements", x.size(), 200);
        Check.due("38 200 by 200", x.fails(), most.model().fails());
        Check.due("38 all 40000 of them", failsOf(x, "(x^)^y=x^y"), -1);
        Check.due("38 y and z", failsOf(x, "yz=yz"), -1);
        Check.due("38 x and z", failsOf(x, "(xz)^(xz)^=(xz)^"), -1);
        Check.due("38 200", failsOf(x, "z=z"), -1);
        Check.due("38 8000000", failsOf(x, "xyz=xyz"), "throws." + UNSUPPORTED);
        // 34 to the third is 39304.
        Eggboxery y = Check.maps(4, Check.g(2, 2, 3, 3), Check.g(-1, 2, 3, 1), Check.g(0, 1, 2, 3));
        Check.due("38 34 elements", y.size(), 34);
        Check.due("38 34 by 34 by 34", failsOf(y, "x(yz)=(xy)z"), -1);
        for (String text : new String[] {"x^x=x", "y^y=y", "z^z=z"}) {
            Shop one = Shop.maps("200", 6, Check.g(1, 3, 5, 4, 0, 0), Check.g(1, 5, 3, 2, 5, 5), STAY).withText(text);
            Check.due("38 one letter of 200", one.make().fails(), one.model().fails());
        }
    }

    private static void promise38MoreThanFortyThousandWays() {
        // 35 to the third is 42875.
        Eggboxery x = Check.maps(4, Check.g(2, 2, 3, 3), Check.g(-1, 2, 3, 1), Check.g(0, 1, 2, 3),
                java.util.Arrays.copyOf(TO_NONE, 4));
        Check.due("38 35 elements", x.size(), 35);
        Check.due("38 35 by 35 by 35", failsOf(x, "xyz=xyz"), "throws." + UNSUPPORTED);
        Check.due("38 in another order", failsOf(x, "z=yx"), "throws." + UNSUPPORTED);
        Check.due("38 two letters of 35", failsOf(x, "xz=xz"), -1);
        Check.due("38 the text stays", x.wipe(), 5);
    }

    private static void promise38OneWay() {
        Eggboxery x = one();
        Check.due("38 one way for three letters", failsOf(x, "xyz=zyx"), -1);
        Check.due("38 one way for one letter", failsOf(x, "x=x^"), -1);
    }

    // ---- 39: the kinds ----

    private static void promise39Kinds() {
        Eggboxery x = one();
        for (int kind = 0; kind < 256; kind++) {
            char asked = (char) kind;
            Object due = "abcgijrlmnosv".indexOf(asked) >= 0 ? (Object) true : "throws." + ILLEGAL;
            Check.due("39 kind " + kind, Check.answerOf(() -> x.isA(asked)), due);
        }
        Check.refused("39 the greatest sign", ILLEGAL, () -> x.isA((char) 65535));
        Check.refused("39 what is listed first", UNSUPPORTED, () -> new Eggboxery().isA('?'));
    }

    private static String kindsOf(Eggboxery x) {
        StringBuilder kinds = new StringBuilder();
        for (char kind : "abcgijrlmnosv".toCharArray()) {
            kinds.append(x.isA(kind) ? kind : '-');
        }
        return kinds.toString();
    }

    private static void promise39OneElement() {
        Check.due("39 one that stays", kindsOf(one()), "abcgijrlmnosv");
        Check.due("39 one that leads to none", kindsOf(Check.maps(2, Check.g(-1, -1))), "abcgijrlmnosv");
        Check.due("39 one relation", kindsOf(Check.relations(1, Check.g(1))), "abcgijrlmnosv");
    }

    private static void promise39EachPeriodIsOne() {
        Check.due("39 a: a chain", chain().isA('a'), true);
        Check.due("39 a: period 2", Check.maps(2, Check.g(1, 0)).isA('a'), false);
        // A tail to a turn of two: one element alone has period 2.
        Check.due("39 a: behind a tail", Check.maps(4, Check.g(1, 2, 3, 2)).isA('a'), false);
        Check.due("39 a: an index more", Check.maps(4, Check.g(1, 2, 3, 3)).isA('a'), true);
        Check.due("39 b: an index more", Check.maps(4, Check.g(1, 2, 3, 3)).isA('b'), false);
        Check.due("39 b: the index 1", Check.maps(4, Check.g(3, 3, 3, 3)).isA('b'), true);
    }

    private static void promise39JustOneInverse() {
        Check.due("39 i: none", chain().isA('i'), false);
        Check.due("39 i: one", Check.maps(2, Check.g(1, 0), Check.g(0, -1)).isA('i'), true);
        Check.due("39 i: two", Check.maps(2, Check.g(0, 0), Check.g(1, 1)).isA('i'), false);
        Check.due("39 v: none", chain().isA('v'), false);
        Check.due("39 v: two", Check.maps(2, Check.g(0, 0), Check.g(1, 1)).isA('v'), true);
    }

    private static void promise39OneElementAClass() {
        Check.due("39 j, r, l: a chain", kindsOf(chain()).substring(5, 8), "jrl");
        Check.due("39 one row of two", kindsOf(Check.maps(2, Check.g(0, 0), Check.g(1, 1))).substring(5, 8), "--l");
        Check.due("39 one column of two", kindsOf(Check.relations(2, Check.g(3, 0), Check.g(0, 3))).substring(5, 8),
                "-r-");
        Check.due("39 a group of two", kindsOf(Check.maps(2, Check.g(1, 0))).substring(5, 8), "---");
        Check.due("39 s: one class", Check.maps(2, Check.g(1, 0)).isA('s'), true);
        Check.due("39 s: two classes", Check.maps(1, Check.g(0), Check.g(-1)).isA('s'), false);
    }

    private static void promise39OneIdempotentAndAZero() {
        Check.due("39 n: a chain", chain().isA('n'), true);
        Check.due("39 n: one idempotent, but no zero", Check.maps(2, Check.g(1, 0)).isA('n'), false);
        Check.due("39 n: a zero, but two idempotents", Check.maps(1, Check.g(0), Check.g(-1)).isA('n'), false);
        Check.due("39 n: neither", Check.constants().isA('n'), false);
    }

    private static void promise39Others() {
        Check.due("39 m: an identity", Check.maps(2, Check.g(0, 1), Check.g(0, 0)).isA('m'), true);
        Check.due("39 m: none", Check.maps(2, Check.g(1, 1), Check.g(0, 0)).isA('m'), false);
        Check.due("39 g: a group", Check.ordersOfFour().isA('g'), true);
        Check.due("39 g: a group and a zero", Check.maps(2, Check.g(1, 0), Check.g(-1, -1)).isA('g'), false);
        Check.due("39 c: a turn", Check.maps(3, Check.g(1, 2, 0)).isA('c'), true);
        Check.due("39 c: a turn and a flip", Check.maps(3, Check.g(1, 2, 0), Check.g(1, 0, 2)).isA('c'), false);
        Check.due("39 o: one idempotent", Check.ordersOfFour().isA('o'), true);
        Check.due("39 o: all of them", Check.constants().isA('o'), true);
        Check.due("39 o: a product that is none", Check.maps(3, Check.g(1, 1, 2), Check.g(0, 2, 2)).isA('o'), false);
    }

    // ---- 40: "A text of letters 'a' to 'd', both sides not empty, with '=' between" ----

    private static void promise40Kinds() {
        for (int kind = 0; kind < 256; kind++) {
            char asked = (char) kind;
            boolean isOne = "clpb".indexOf(asked) >= 0;
            Check.due("40 kind " + kind, sameOf("a=a", asked), isOne ? (Object) true : "throws." + ILLEGAL);
            Check.due("40 kind first, text then " + kind, sameOf("", asked),
                    "throws." + (isOne ? UNSUPPORTED : ILLEGAL));
        }
    }

    private static void promise40Sides() {
        String[] none = {"", "=", "a", "abcd", "a=", "=a", "==", "a==a", "a=a=a", "=a=a", "a=a=",
            "abcdabcdabcdabcdabcdabc=", "=abcdabcdabcdabcdabcdabc", "abcdabcdabcdabcdabcdabcd"};
        String[] others = {"x=a", "a=x", "ax=a", "a=ay", "z=z", "a^=a", "a=a^", "(a)=a", "a=(a)", "a(=)a"};
        for (char kind : "clpb".toCharArray()) {
            for (String text : none) {
                Check.due("40 no two sides " + text, sameOf(text, kind), "throws." + UNSUPPORTED);
            }
            for (String text : others) {
                Check.due("40 another sign " + text, sameOf(text, kind), "throws." + UNSUPPORTED);
            }
        }
    }

    private static void promise40ShortestAndLongest() {
        for (char kind : "clpb".toCharArray()) {
            Check.due("40 one letter", sameOf("d=d", kind), true);
            Check.due("40 two letters", sameOf("a=d", kind), false);
            Check.due("40 one letter twice", sameOf("aa=a", kind), kind == 'l' || kind == 'b');
            Check.due("40 twenty-three signs", sameOf("abcdabcdabc=abcdabcdabc", kind), true);
            Check.due("40 twenty-four signs", sameOf("abcdabcdabcd=abcdabcdabc", kind), kind == 'l');
            Check.due("40 one and twenty-two", sameOf("a=aaaaaaaaaaaaaaaaaaaaaa", kind), kind == 'l' || kind == 'b');
            Check.due("40 twenty-two and one", sameOf("dddddddddddddddddddddd=d", kind), kind == 'l' || kind == 'b');
        }
        Eggboxery unknown = new Eggboxery();
        Check.text(unknown, "ab=ba");
        Check.due("40 no element is asked for", unknown.areSame('c'), true);
    }

    private static void promise40EachLetter() {
        for (char kind : "clpb".toCharArray()) {
            for (char one = 'a'; one <= 'd'; one++) {
                for (char two = 'a'; two <= 'd'; two++) {
                    Check.due("40 " + one + two + " by " + kind, sameOf(one + "=" + two, kind), one == two);
                    boolean areSame = one == two || kind == 'c';
                    Check.due("40 " + one + two + " turned by " + kind, sameOf("" + one + two + "=" + two + one, kind),
                            areSame);
                }
            }
        }
    }

    /** "in place of its first greater letter": not of one that is as great. */
    private static void promise40FirstGreaterLetter() {
        Check.due("40 p: b in place of c, behind b", sameOf("bcb=cbb", 'p'), true);
        Check.due("40 p: b in place of c, not of d", sameOf("acdb=acbd", 'p'), true);
        Check.due("40 p: and d stays where it is", sameOf("acdb=adcb", 'p'), false);
        Check.due("40 p: as great is not greater", sameOf("aab=aba", 'p'), false);
        Check.due("40 p: at the end of a row without one", sameOf("abcd=abdc", 'p'), false);
        Check.due("40 p: a row for each letter", sameOf("dcba=dcba", 'p'), true);
        Check.due("40 p: three rows and four", sameOf("dcba=cdba", 'p'), false);
    }

    /** "if they have the same letters, and, unless these are none, .." */
    private static void promise40NoLettersLeft() {
        Check.due("40 b: nothing is ahead of one letter", sameOf("b=bbb", 'b'), true);
        Check.due("40 b: nothing behind, something behind", sameOf("ab=aba", 'b'), false);
        Check.due("40 b: nothing ahead, something ahead", sameOf("ba=aba", 'b'), false);
        Check.due("40 b: four letters, five levels", sameOf("abcd=abcdabcd", 'b'), true);
        Check.due("40 b: other letters", sameOf("abcd=dabc", 'b'), false);
    }

    // ---- 41: "the sum, over all boxes with a group, of how many classes of conjugate elements this has" ----

    private static void promise41WithoutAGroup() {
        Check.due("41 five boxes without, one with", chain().irreducibles(), 1);
        Check.due("41 one alone", one().irreducibles(), 1);
    }

    private static void promise41OneAndMany() {
        Check.due("41 a group of two", Check.maps(2, Check.g(1, 0)).irreducibles(), 2);
        Check.due("41 and a group of one below it", Check.maps(2, Check.g(1, 0), Check.g(-1, -1)).irreducibles(), 3);
        Check.due("41 one box with three groups of one", Check.constants().irreducibles(), 1);
        Check.due("41 turns and flips of six", Check.maps(6, Check.g(1, 2, 3, 4, 5, 0), Check.g(0, 5, 4, 3, 2, 1))
                .irreducibles(), 6);
        Shop most = Shop.maps("200", 6, Check.g(1, 3, 5, 4, 0, 0), Check.g(1, 5, 3, 2, 5, 5), STAY);
        Check.due("41 of 200", most.make().irreducibles(), most.model().irreducibles());
    }
}
