/** Promises 37 to 41. */
public final class EquationsTest {
    private static final String ILLEGAL = "IllegalArgumentException";
    private static final String STATE = "IllegalStateException";
    private static final String UNSUPPORTED = "UnsupportedOperationException";

    public static void main(String[] args) {
        sign();
        failsForms();
        failsAnswers();
        failsWays();
        isA();
        areSameForms();
        areSameCommutativeAndLeft();
        areSamePlactic();
        areSameBands();
        irreducibles();
        Check.end();
    }

    private static void sign() {
        Eggboxery x = new Eggboxery();
        String signs = "xyz=^()abcd";
        for (int at = 0; at < signs.length(); at++) {
            Check.due("37 sign " + signs.charAt(at), x.sign(signs.charAt(at)), at + 1);
        }
        for (char none : new char[] {'w', '{', 'e', 'X', '*', ' ', '`', (char) 0, (char) 233, (char) 65535}) {
            Check.refused("37 no sign", ILLEGAL, () -> x.sign(none));
        }
        for (int count = 12; count <= 24; count++) {
            Check.due("37 sign", x.sign('x'), count);
        }
        Check.refused("37 a full text", STATE, () -> x.sign('x'));
        Check.refused("37 what is listed first", ILLEGAL, () -> x.sign('w'));
        Check.due("37 24 are there", x.wipe(), 24);
    }

    private static Object failsOf(Eggboxery x, String text) {
        Check.text(x, text);
        return Check.answerOf(x::fails);
    }

    private static void failsForms() {
        Eggboxery x = Check.steps();
        String[] none = {"", "=", "x", "x=", "=x", "x==x", "x=y=z", "(x)", "(x=x", "x)=x", "(x=x)", "()=x", "x()=x",
            "^x=x", "x=^x", "x^^=x", "(^x)=x", "(x^^)=x", "(x)^^=x", "a=a", "xa=x", "x=xd", ")x(=x", "x^=(y", "x=y^^",
            "((x)=x", "x(=)x", "^=x", "x=)", "x)(x=x", "x=x)(x"};
        for (String text : none) {
            Check.due("38 no equation " + text, failsOf(x, text), "throws." + UNSUPPORTED);
        }
        String[] some = {"x=x", "x^=x^", "(x)=x", "((x))=x", "(x)^=x^", "((x^)^)^=x^", "(xy)z=x(yz)", "x(y(z))=xyz",
            "((((((((((x))))))))))=x", "x(y)z=(x(y))z"};
        for (String text : some) {
            Check.due("38 it holds " + text, failsOf(x, text), -1);
        }
        Eggboxery unknown = new Eggboxery();
        Check.due("38 not all is known", failsOf(unknown, "x=x"), "throws." + UNSUPPORTED);
        Eggboxery tooMany = Check.tooMany();
        Check.due("38 there are too many", failsOf(tooMany, "x=x"), "throws." + UNSUPPORTED);
        Check.due("38 the text stays", tooMany.wipe(), 3);
    }

    private static void failsAnswers() {
        Eggboxery x = Check.steps();
        Check.due("38 y rises first", failsOf(x, "xy=yx"), 200);
        Check.due("38 z rises before y", failsOf(x, "xz=zx"), 40000);
        Check.due("38 z rises first", failsOf(x, "yz=zy"), 40000);
        Check.due("38 x alone", failsOf(x, "xx=xxx"), -1);
        Check.due("38 all of three", failsOf(x, "xyz=yxz"), -1);
        Check.due("38 powers that end", failsOf(x, "x^y=x^"), -1);
        Check.due("38 a product's power", failsOf(x, "(xy)^=x^y^"), -1);
        Check.due("38 not idempotent", failsOf(x, "x=xx"), 0);
        Check.due("38 y alone", failsOf(x, "y=z"), 40000);
        Check.due("38 three apart", failsOf(x, "xy=z"), 0);
        Eggboxery y = Check.powers();
        Check.due("38 the first that fails is 0", failsOf(y, "x=x^x"), 0);
        Check.due("38 the period", failsOf(y, "xxxx=x"), 0);
        Check.due("38 it is cyclic behind", failsOf(y, "xxxxx=xx"), -1);
        Check.due("38 omega binds the last factor", failsOf(y, "xx^=x^"), 0);
        Check.due("38 omega of a row", failsOf(y, "(xx)^=x^"), -1);
        Eggboxery z = Check.allMapsOfThree();
        Check.due("38 in a box of its own", failsOf(z, "xyx=xyx"), -1);
        // The first that is no element of a group: its square sends all three points together.
        Check.due("38 no element of a group", failsOf(z, "x^x=x"), 5);
        Check.due("38 its square", z.height(z.product(5, 5)), 1);
        int turnFirst = z.product(0, 1) == z.product(1, 0) ? -1 : 200;
        Check.due("38 turn and swap", failsOf(z, "xy=yx"), turnFirst);
        // Idempotents x and y: the identity holds, so x must rise.
        Check.due("38 x rises last", (int) failsOf(z, "x^y=y") % 200, 2);
        Check.due("38 the same text with other elements", changedElements(), "-1 0");
    }

    private static String changedElements() {
        Eggboxery x = Check.maps(2, Check.g(0, 0));
        Check.text(x, "x=xx");
        String before = String.valueOf(x.fails());
        x.begin('t', 2);
        Check.add(x, 1, 0);
        return before + " " + x.fails();
    }

    private static void failsWays() {
        Eggboxery group = Check.maps(5, Check.g(1, 2, 3, 4, 0), Check.g(1, 0, 2, 3, 4));
        Check.due("38 two of 120", failsOf(group, "(xy)^=y^"), -1);
        Check.due("38 three of 120", failsOf(group, "xyz=xyz"), "throws." + UNSUPPORTED);
        Eggboxery most = Check.maps(6, Check.g(-1, 1, -1, 1, 5, 3), Check.g(-1, 2, 4, 3, 2, 0),
                Check.g(1, 3, 5, 1, -1, 1));
        Check.due("38 two of 200 are 40000", failsOf(most, "xy=xy"), -1);
        Check.due("38 three of 200", failsOf(most, "xyz=xyz"), "throws." + UNSUPPORTED);
        Check.due("38 one of 200", failsOf(most, "z=z"), -1);
        // 34 to the third is 39304, 35 to the third is 42875.
        Eggboxery thirty = Check.maps(6, Check.g(1, 2, 3, 4, 0, 0), Check.g(1, 2, 3, 4, 0, 5));
        Check.due("38 three of 30", failsOf(thirty, "x(yz)=(xy)z"), -1);
        Eggboxery few = Check.maps(3, Check.g(1, 2, 0), Check.g(2, 1, 0), Check.g(0, 2, -1));
        Check.due("38 there are 34", few.size(), 34);
        Check.due("38 three of 34", failsOf(few, "xyz=xyz"), -1);
        Eggboxery many = Check.maps(4, Check.g(3, 1, 2, 0), Check.g(2, 0, 3, -1));
        Check.due("38 there are 35", many.size(), 35);
        Check.due("38 three of 35", failsOf(many, "xyz=xyz"), "throws." + UNSUPPORTED);
        Check.due("38 two of 35", failsOf(many, "xz=xz"), -1);
    }

    private static String kindsOf(Eggboxery x) {
        StringBuilder kinds = new StringBuilder();
        for (char kind : "abcgijrlmnosv".toCharArray()) {
            if (x.isA(kind)) {
                kinds.append(kind);
            }
        }
        return kinds.toString();
    }

    private static void isA() {
        Check.due("39 all maps of three points", kindsOf(Check.allMapsOfThree()), "mv");
        Check.due("39 steps", kindsOf(Check.steps()), "ajrlno");
        Check.due("39 constants", kindsOf(Check.constants()), "ablosv");
        Check.due("39 orders", kindsOf(Check.ordersOfFour()), "gimosv");
        Check.due("39 a turn", kindsOf(Check.maps(3, Check.g(1, 2, 0))), "cgimosv");
        Check.due("39 powers", kindsOf(Check.powers()), "co");
        Check.due("39 one", kindsOf(Check.maps(1, Check.g(0))), "abcgijrlmnosv");
        Check.due("39 what is sent nowhere", kindsOf(Check.maps(2, Check.g(1, -1))), "acjrlno");
        Check.due("39 two, one below the other", kindsOf(Check.maps(2, Check.g(0, -1), Check.g(0, 1))), "abcijrlmov");
        Check.due("39 all partial ones that send none together", kindsOf(Check.maps(2, Check.g(1, 0), Check.g(0, -1))),
                "imov");
        // x y is y by the maps, and with relations turned about x y is x.
        Check.due("39 the other way about", kindsOf(Check.relations(2, Check.g(1, 1), Check.g(2, 2))), "ablosv");
        Check.due("39 turned about", kindsOf(Check.relations(2, Check.g(3, 0), Check.g(0, 3))), "abrosv");
        for (char none : new char[] {'d', 'e', 'A', '=', ' ', (char) 0, (char) 65535}) {
            Check.refused("39 no kind", ILLEGAL, () -> Check.steps().isA(none));
        }
        Check.refused("39 not all is known", UNSUPPORTED, () -> new Eggboxery().isA('?'));
        Check.refused("39 too many", UNSUPPORTED, () -> Check.tooMany().isA('?'));
        // Two idempotents whose product is none: points 0 and 1 to 1, then 1 and 2 to 2, but 0 and 2 apart at first.
        Eggboxery x = Check.maps(3, Check.g(1, 1, 2), Check.g(0, 2, 2));
        Check.due("39 products of idempotents", x.isA('o'), false);
        // One idempotent that is no zero.
        Check.due("39 a group has no zero", Check.maps(2, Check.g(1, 0)).isA('n'), false);
        // Each is regular, one has more than one inverse.
        Check.due("39 not just one inverse", Check.constants().isA('i'), false);
    }

    private static Object sameOf(String text, char kind) {
        Eggboxery x = new Eggboxery();
        Check.text(x, text);
        return Check.answerOf(() -> x.areSame(kind));
    }

    private static void areSameForms() {
        String[] none = {"", "=", "a", "a=", "=a", "a==a", "a=a=a", "x=a", "a=x", "a^=a", "(a)=a", "=a=a", "a=a="};
        for (char kind : new char[] {'c', 'l', 'p', 'b'}) {
            for (String text : none) {
                Check.due("40 no such one " + text, sameOf(text, kind), "throws." + UNSUPPORTED);
            }
            Check.due("40 the same", sameOf("abcd=abcd", kind), true);
            Check.due("40 another letter", sameOf("a=b", kind), false);
            Check.due("40 a letter more", sameOf("ab=abc", kind), false);
            Check.due("40 the longest", sameOf("abcdabcdabc=abcdabcdabcd", kind), kind == 'l');
        }
        for (char kind : new char[] {'a', 'd', 'C', ' ', (char) 0, (char) 65535}) {
            Check.due("40 no kind", sameOf("", kind), "throws." + ILLEGAL);
            Check.due("40 no kind", sameOf("a=a", kind), "throws." + ILLEGAL);
        }
        Eggboxery x = new Eggboxery();
        Check.text(x, "ab=ba");
        x.areSame('c');
        Check.due("40 the text stays", x.wipe(), 5);
    }

    private static void areSameCommutativeAndLeft() {
        Check.due("40 c", sameOf("abca=caab", 'c'), true);
        Check.due("40 c one fewer", sameOf("abca=cab", 'c'), false);
        Check.due("40 c another one", sameOf("aab=abb", 'c'), false);
        Check.due("40 c the fourth", sameOf("ddc=cdd", 'c'), true);
        Check.due("40 l", sameOf("abab=ab", 'l'), true);
        Check.due("40 l the order of first places", sameOf("abcbacb=abc", 'l'), true);
        Check.due("40 l another order", sameOf("ab=ba", 'l'), false);
        Check.due("40 l not from the right", sameOf("ab=bab", 'l'), false);
        Check.due("40 l the fourth", sameOf("dcd=dc", 'l'), true);
        Check.due("40 l the fourth is missed", sameOf("dcd=d", 'l'), false);
    }

    private static void areSamePlactic() {
        Check.due("40 p acb is cab", sameOf("acb=cab", 'p'), true);
        Check.due("40 p bac is bca", sameOf("bac=bca", 'p'), true);
        Check.due("40 p bba is bab", sameOf("bba=bab", 'p'), true);
        Check.due("40 p baa is aba", sameOf("baa=aba", 'p'), true);
        Check.due("40 p abc is not acb", sameOf("abc=acb", 'p'), false);
        Check.due("40 p acb is not bac", sameOf("acb=bac", 'p'), false);
        Check.due("40 p cba is not cab", sameOf("cba=cab", 'p'), false);
        Check.due("40 p aab is not aba", sameOf("aab=aba", 'p'), false);
        Check.due("40 p four rows", sameOf("dcba=dcab", 'p'), false);
        Check.due("40 p what goes into the fourth row", sameOf("dcba=cba", 'p'), false);
        Check.due("40 p four rows and more", sameOf("dcbaa=dcaba", 'p'), true);
        Check.due("40 p two rows", sameOf("bdac=badc", 'p'), true);
        Check.due("40 p two other rows", sameOf("bdac=cdab", 'p'), false);
        Check.due("40 p cbdab by steps", sameOf("cadb=cdab", 'p'), true);
        Check.due("40 p as often but otherwise", sameOf("cabd=cdab", 'p'), false);
        Check.due("40 p greater, not as great", sameOf("aba=baa", 'p'), true);
    }

    private static void areSameBands() {
        Check.due("40 b aa is a", sameOf("aa=a", 'b'), true);
        Check.due("40 b abab is ab", sameOf("abab=ab", 'b'), true);
        Check.due("40 b aba is not ab", sameOf("aba=ab", 'b'), false);
        Check.due("40 b ab is not ba", sameOf("ab=ba", 'b'), false);
        Check.due("40 b aba is not a", sameOf("aba=a", 'b'), false);
        Check.due("40 b abcab is not abc", sameOf("abcab=abc", 'b'), false);
        Check.due("40 b abcabc is abc", sameOf("abcabc=abc", 'b'), true);
        Check.due("40 b cabca is ca with b between", sameOf("cabca=cbca", 'b'), false);
        Check.due("40 b abcbabc is abc", sameOf("abcbabc=abc", 'b'), true);
        Check.due("40 b abcacbabc is not abc", sameOf("abacabc=abc", 'b'), false);
        Check.due("40 b four letters", sameOf("abcdcbabcd=abcd", 'b'), true);
        Check.due("40 b four letters squared", sameOf("abcdabcd=abcd", 'b'), true);
        Check.due("40 b the last new one from the left", sameOf("abcba=bacba", 'b'), false);
        Check.due("40 b the last new one from the right", sameOf("abcba=abcab", 'b'), false);
        Check.due("40 b what is between does not count", sameOf("abcdabc=abcdbdabc", 'b'), true);
        Check.due("40 b letters alone", sameOf("abcd=abc", 'b'), false);
        // b comes last as a new one from both sides, and is all there is, or has another letter round it.
        Check.due("40 b one has more letters", sameOf("b=aba", 'b'), false);
        Check.due("40 b the other one has fewer", sameOf("aba=b", 'b'), false);
        Check.due("40 b other letters round it", sameOf("aba=cbc", 'b'), false);
        Check.due("40 b more letters further in", sameOf("cabac=cbc", 'b'), false);
    }

    private static void irreducibles() {
        Check.due("41 three groups of orders", Check.allMapsOfThree().irreducibles(), 6);
        Check.due("41 orders of four", Check.ordersOfFour().irreducibles(), 5);
        Check.due("41 a turn of six", Check.maps(6, Check.g(1, 2, 3, 4, 5, 0)).irreducibles(), 6);
        Check.due("41 powers", Check.powers().irreducibles(), 3);
        Check.due("41 steps", Check.steps().irreducibles(), 1);
        Check.due("41 constants", Check.constants().irreducibles(), 1);
        Check.due("41 orders of five", Check.maps(5, Check.g(1, 2, 3, 4, 0), Check.g(1, 0, 2, 3, 4)).irreducibles(),
                7);
        Check.due("41 turns and flips of four", Check.maps(4, Check.g(1, 2, 3, 0), Check.g(2, 1, 0, 3)).irreducibles(),
                5);
        Check.refused("41 not all is known", UNSUPPORTED, () -> new Eggboxery().irreducibles());
        Check.refused("41 too many", UNSUPPORTED, () -> Check.tooMany().irreducibles());
    }
}
