/** Promises 42 to 49. */
public final class PointsTest {
    private static final String ILLEGAL = "IllegalArgumentException";
    private static final String UNSUPPORTED = "UnsupportedOperationException";
    private static final String NONE = "NoSuchElementException";

    public static void main(String[] args) {
        together();
        togetherWithNone();
        automaton();
        accepts();
        syntactic();
        isLanguage();
        imageSets();
        levels();
        relations();
        unknown(new Eggboxery());
        unknown(Check.tooMany());
        Check.end();
    }

    private static String wordTogether(Eggboxery x, int points) {
        StringBuilder word = new StringBuilder();
        int length = x.together(points);
        for (int index = 0; index < length; index++) {
            word.append(x.togetherAt(points, index));
        }
        Check.refused("43 behind the word", NONE, () -> x.togetherAt(points, length));
        Check.refused("43 ahead of the word", NONE, () -> x.togetherAt(points, -1));
        return word.toString();
    }

    private static void together() {
        // A turn, and one point sent on: the longest of the shortest words of four points has nine generators.
        Eggboxery x = Check.maps(4, Check.g(1, 2, 3, 0), Check.g(1, 1, 2, 3));
        Check.due("42 all four", wordTogether(x, 15), "100010001");
        Check.due("42 two at once", wordTogether(x, 3), "1");
        Check.due("42 one point", wordTogether(x, 8), "");
        Check.due("42 the last ones", wordTogether(x, 12), "001");
        for (int none : new int[] {0, -1, 16, 64, Integer.MIN_VALUE, Integer.MAX_VALUE}) {
            Check.refused("42 no points", ILLEGAL, () -> x.together(none));
            Check.refused("43 no points", ILLEGAL, () -> x.togetherAt(none, 0));
        }
        for (int none : new int[] {1, 2, Integer.MIN_VALUE, Integer.MAX_VALUE}) {
            Check.refused("43 no index", NONE, () -> x.togetherAt(3, none));
        }
        Check.refused("43 of one point", NONE, () -> x.togetherAt(1, 0));
        Eggboxery turn = Check.maps(3, Check.g(1, 2, 0));
        Check.refused("42 never", NONE, () -> turn.together(3));
        Check.refused("43 never", NONE, () -> turn.togetherAt(3, 0));
        Check.due("42 one stays", turn.together(4), 0);
        Eggboxery six = Check.maps(6, Check.g(1, 2, 3, 4, 5, 0), Check.g(1, 1, 2, 3, 4, 5));
        Check.due("42 it is not asked that all is known", Check.answerOf(six::size), "throws." + UNSUPPORTED);
        Check.due("42 six points", six.together(63), 25);
        // Both ways are of length 2: that of the lower generators is told.
        Eggboxery both = Check.maps(3, Check.g(1, 2, 2), Check.g(1, 1, 0));
        Check.due("43 the first one", wordTogether(both, 7), "00");
        Eggboxery second = Check.maps(2, Check.g(1, 0), Check.g(1, 1), Check.g(0, 0));
        Check.due("43 the lower one of two", wordTogether(second, 3), "1");
        Check.refused("42 no generator", UNSUPPORTED, () -> new Eggboxery().together(0));
        Check.refused("43 no generator", UNSUPPORTED, () -> new Eggboxery().togetherAt(0, -1));
        Check.due("42 after a generator more", moreGenerators(), "0 00 1");
    }

    private static String moreGenerators() {
        Eggboxery x = Check.maps(3, Check.g(1, 2, 2));
        String words = wordTogether(x, 6) + " " + wordTogether(x, 7);
        Check.add(x, 2, 2, 2);
        return words + " " + wordTogether(x, 7);
    }

    private static void togetherWithNone() {
        Eggboxery x = Check.maps(3, Check.g(0, 0, -1), Check.g(1, 2, 1), Check.g(-1, 0, 1));
        Check.due("42 from each to a point", wordTogether(x, 3), "0");
        Check.due("42 a word that leads the last one to none does not do", wordTogether(x, 6), "20");
        Eggboxery y = Check.steps();
        Check.refused("42 what leads to none", NONE, () -> y.together(3));
        Check.refused("43 what leads to none", NONE, () -> y.togetherAt(3, 0));
        Check.due("42 one point", y.together(2), 0);
    }

    private static void automaton() {
        Eggboxery x = Check.maps(4, Check.g(1, 2, 3, 0));
        Check.due("44 at first", x.automaton(3, 15), 0);
        Check.due("44 then", x.automaton(2, 0), 315);
        Check.due("44 no ends", x.automaton(0, 8), 200);
        for (int none : new int[] {-1, 4, 6, Integer.MIN_VALUE, Integer.MAX_VALUE}) {
            Check.refused("44 no point", ILLEGAL, () -> x.automaton(none, 1));
        }
        for (int none : new int[] {-1, 16, 64, Integer.MIN_VALUE, Integer.MAX_VALUE}) {
            Check.refused("44 no points", ILLEGAL, () -> x.automaton(1, none));
        }
        Check.due("44 nothing is changed by what throws", x.automaton(0, 8), 8);
        Check.add(x, 0, 0, 0, 0);
        Check.due("44 a generator leaves it", x.automaton(0, 8), 8);
        Check.due("44 without generators", new Eggboxery().automaton(0, 1), 0);
    }

    private static void accepts() {
        Eggboxery x = Check.steps();
        Check.due("45 no ends", x.accepts(), false);
        x.automaton(0, 4);
        Check.due("45 the empty word", x.accepts(), false);
        Check.row(x, 0);
        Check.due("45 a", x.accepts(), false);
        Check.row(x, 1);
        Check.due("45 ab", x.accepts(), true);
        Check.row(x, 1);
        Check.due("45 abb leads to none", x.accepts(), false);
        Check.due("45 it stays", x.wipe(), 3);
        x.automaton(0, 5);
        Check.due("45 the empty word is accepted", x.accepts(), true);
        Check.row(x, 0, 2);
        Check.refused("45 no generator", ILLEGAL, x::accepts);
        x.wipe();
        Check.row(x, 0, 0, -1);
        Check.refused("45 less than any", ILLEGAL, x::accepts);
        Eggboxery y = new Eggboxery();
        Check.due("45 without generators", y.accepts(), false);
        y.automaton(0, 1);
        Check.due("45 without generators, the empty word", y.accepts(), true);
        y.type(0);
        Check.refused("45 without generators", ILLEGAL, y::accepts);
        Eggboxery many = Check.tooMany();
        many.automaton(1, 4);
        Check.row(many, 0);
        Check.due("45 it is not asked that all is known", many.accepts(), true);
    }

    private static void syntactic() {
        Eggboxery x = Check.steps();
        Check.due("46 no ends", x.syntactic(), 1);
        x.automaton(0, 4);
        Check.due("46 ab alone", x.syntactic(), 4);
        x.automaton(1, 4);
        Check.due("46 b alone", x.syntactic(), 2);
        x.automaton(2, 4);
        Check.due("46 the empty word alone", x.syntactic(), 1);
        x.automaton(0, 7);
        Check.due("46 the empty word, a and ab", x.syntactic(), 4);
        // An even number of turns of four points: just two are told apart, and one that comes later is.
        Eggboxery y = Check.maps(4, Check.g(1, 2, 3, 0));
        y.automaton(0, 5);
        Check.due("46 even ones", y.syntactic(), 2);
        y.automaton(0, 1);
        Check.due("46 each fourth one", y.syntactic(), 4);
        y.automaton(0, 15);
        Check.due("46 all", y.syntactic(), 1);
        Eggboxery z = Check.allMapsOfThree();
        z.automaton(0, 4);
        Check.due("46 all maps of three points", z.syntactic(), 27);
        // What is not reached does not tell: points 2 and 3 are apart from 0 and 1.
        Eggboxery parted = Check.maps(4, Check.g(1, 0, 3, 3), Check.g(0, 1, 2, 2));
        parted.automaton(0, 5);
        Check.due("46 where it begins", parted.syntactic(), 2);
        parted.automaton(2, 5);
        Check.due("46 where it begins else", parted.syntactic(), 2);
        parted.automaton(2, 4);
        Check.due("46 other ends", parted.syntactic(), 2);
    }

    private static String kindsOf(Eggboxery x) {
        StringBuilder kinds = new StringBuilder();
        for (char kind : "abcn".toCharArray()) {
            if (x.isLanguage(kind)) {
                kinds.append(kind);
            }
        }
        return kinds.toString();
    }

    private static void isLanguage() {
        Eggboxery x = Check.steps();
        Check.due("47 none", kindsOf(x), "abcn");
        x.automaton(0, 4);
        Check.due("47 ab alone", kindsOf(x), "an");
        x.automaton(1, 4);
        Check.due("47 b alone", kindsOf(x), "acn");
        Eggboxery y = Check.maps(4, Check.g(1, 2, 3, 0));
        y.automaton(0, 5);
        Check.due("47 even ones", kindsOf(y), "c");
        y.automaton(0, 15);
        Check.due("47 all", kindsOf(y), "abcn");
        Eggboxery z = Check.maps(2, Check.g(0, 0), Check.g(1, 1));
        z.automaton(0, 2);
        Check.due("47 what ends with b", kindsOf(z), "ab");
        Eggboxery b = Check.maps(2, Check.g(0, 1), Check.g(1, 1));
        b.automaton(0, 2);
        Check.due("47 what has b", kindsOf(b), "abc");
        Eggboxery n = Check.maps(2, Check.g(-1, -1), Check.g(0, 1));
        n.automaton(0, 1);
        Check.due("47 a zero, and another idempotent", kindsOf(n), "abc");
        Eggboxery all = Check.allMapsOfThree();
        all.automaton(0, 1);
        Check.due("47 all maps of three points", kindsOf(all), "");
        for (char none : new char[] {'g', 'A', ' ', (char) 0, (char) 65535}) {
            Check.refused("47 no kind", ILLEGAL, () -> x.isLanguage(none));
        }
    }

    private static void imageSets() {
        Check.due("48 all maps of three points", Check.allMapsOfThree().imageSets(), 7);
        Check.due("48 steps", Check.steps().imageSets(), 4);
        Check.due("48 orders", Check.ordersOfFour().imageSets(), 5);
        Check.due("48 one point", Check.maps(1, Check.g(0)).imageSets(), 1);
        Check.due("48 one point to none", Check.maps(1, Check.g(-1)).imageSets(), 1);
        Check.due("48 powers", Check.powers().imageSets(), 8);
        Check.due("48 what none leads to is there too", Check.constants().imageSets(), 4);
        Check.due("48 six points", Check.maps(6, Check.g(1, 2, 3, 4, 5, 5)).imageSets(), 11);
    }

    private static void levels() {
        Check.due("49 all maps of three points", Check.allMapsOfThree().levels(), 3);
        Check.due("49 steps", Check.steps().levels(), 4);
        Check.due("49 orders", Check.ordersOfFour().levels(), 2);
        Check.due("49 one point", Check.maps(1, Check.g(0)).levels(), 1);
        // All; all but 0; 1, or the turn of three; one point of this, below each other one of it.
        Check.due("49 powers", Check.powers().levels(), 4);
        // All; all but 0; and so on to 4 and 5; 4; 5.
        Check.due("49 six points", Check.maps(6, Check.g(1, 2, 3, 4, 5, 5)).levels(), 7);
        Check.due("49 constants", Check.constants().levels(), 2);
    }

    private static void relations() {
        Eggboxery x = Check.relations(2, Check.g(1, 3));
        Check.refused("42 relations", UNSUPPORTED, () -> x.together(0));
        Check.refused("43 relations", UNSUPPORTED, () -> x.togetherAt(0, -1));
        Check.refused("44 relations", UNSUPPORTED, () -> x.automaton(-1, -1));
        Check.refused("45 relations", UNSUPPORTED, x::accepts);
        Check.refused("46 relations", UNSUPPORTED, x::syntactic);
        Check.refused("47 relations", UNSUPPORTED, () -> x.isLanguage('?'));
        Check.refused("48 relations", UNSUPPORTED, x::imageSets);
        Check.refused("49 relations", UNSUPPORTED, x::levels);
        x.begin('t', 2);
        Check.due("44 maps again", x.automaton(0, 0), 0);
    }

    private static void unknown(Eggboxery x) {
        Check.refused("46 not all is known", UNSUPPORTED, x::syntactic);
        Check.refused("47 not all is known", UNSUPPORTED, () -> x.isLanguage('?'));
        Check.refused("48 not all is known", UNSUPPORTED, x::imageSets);
        Check.refused("49 not all is known", UNSUPPORTED, x::levels);
    }
}
