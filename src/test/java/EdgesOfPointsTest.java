/** The bounds of promises 42 to 49, and of what 'Points', 'An automaton' and 'Image sets' say. */
public final class EdgesOfPointsTest {
    private static final String ILLEGAL = "IllegalArgumentException";
    private static final String UNSUPPORTED = "UnsupportedOperationException";
    private static final String NONE = "NoSuchElementException";
    private static final int[] STAY = {0, 1, 2, 3, 4, 5};
    private static final int[] TO_NONE = {-1, -1, -1, -1, -1, -1};
    private static final int[] WILD = {-1, 64, Integer.MIN_VALUE, Integer.MAX_VALUE};

    public static void main(String[] args) {
        promise42Points();
        promise42OnePoint();
        promise42ToAPointFromEach();
        promise42NeverTogether();
        promise42WithoutGenerators();
        promise42ShortestAndLongest();
        promise43Indices();
        promise43TheFirstOfSeveral();
        promise44Points();
        promise44Before();
        promise44WithoutGenerators();
        promise45TheEmptyWord();
        promise45FullRow();
        promise45ToNone();
        promise45Generators();
        promise46NoEnds();
        promise46AllEnds();
        promise46WordsPerhapsEmpty();
        promise46OneAndTwoHundred();
        promise47Kinds();
        promise47NoEnds();
        promise47EachKind();
        promise48OneAndMany();
        promise48NotEmpty();
        promise49OneAndMany();
        promise49NotBelowIt();
        promises46To49Relations();
        Check.end();
    }

    private static int[] first(int points, int[] row) {
        return java.util.Arrays.copyOf(row, points);
    }

    private static Eggboxery chain() {
        return Check.maps(6, Check.g(1, 2, 3, 4, 5, -1));
    }

    private static Shop twoHundred() {
        return Shop.maps("200", 6, Check.g(1, 3, 5, 4, 0, 0), Check.g(1, 5, 3, 2, 5, 5), STAY);
    }

    // ---- 42: "the points as bits, not none" ----

    private static void promise42Points() {
        for (int points = 1; points <= 6; points++) {
            Eggboxery x = Check.maps(points, new int[points]);
            int all = (1 << points) - 1;
            for (int bits = 1; bits <= all; bits++) {
                Check.due("42 of " + points + " " + bits, x.together(bits), Integer.bitCount(bits) == 1 ? 0 : 1);
            }
            for (int none : new int[] {0, -1, all + 1, 64, Integer.MIN_VALUE, Integer.MAX_VALUE}) {
                Check.refused("42 of " + points + " " + none, ILLEGAL, () -> x.together(none));
                Check.refused("43 of " + points + " " + none, ILLEGAL, () -> x.togetherAt(none, 0));
            }
        }
    }

    /** "0 for one point": also if there is no word that leads from it. */
    private static void promise42OnePoint() {
        for (int points = 1; points <= 6; points++) {
            Eggboxery x = Check.maps(points, first(points, TO_NONE));
            for (int point = 0; point < points; point++) {
                int bits = 1 << point;
                Check.due("42 one of " + points, x.together(bits), 0);
                Check.refused("43 one of " + points, NONE, () -> x.togetherAt(bits, 0));
            }
        }
    }

    /** "with none, also to a point from each". */
    private static void promise42ToAPointFromEach() {
        Eggboxery x = Check.maps(2, Check.g(0, -1));
        Check.refused("42 one of two goes to none", NONE, () -> x.together(3));
        Eggboxery y = Check.maps(2, Check.g(-1, -1));
        Check.refused("42 both go to none", NONE, () -> y.together(3));
        Eggboxery z = Check.maps(3, Check.g(0, 0, -1));
        Check.due("42 a point that is not asked for may", z.together(3), 1);
        Check.refused("42 one that is asked for may not", NONE, () -> z.together(7));
        Eggboxery later = Check.maps(4, Check.g(-1, 1, 1, 3), Check.g(1, 2, 3, 3));
        Check.due("42 a way round the one to none", later.together(3), 2);
        Check.due("43 first on", later.togetherAt(3, 0), 1);
        Check.due("43 and then together", later.togetherAt(3, 1), 0);
    }

    private static void promise42NeverTogether() {
        Eggboxery x = Check.maps(6, STAY);
        Check.refused("42 all that stays", NONE, () -> x.together(63));
        Check.refused("42 two that stay", NONE, () -> x.together(33));
        Check.refused("43 no word", NONE, () -> x.togetherAt(33, 0));
        Check.refused("43 no word, no index", NONE, () -> x.togetherAt(33, -1));
        Check.refused("43 what is listed first", ILLEGAL, () -> x.togetherAt(0, -1));
        Check.refused("43 what is listed first", ILLEGAL, () -> x.togetherAt(64, 0));
    }

    /** "if there is no generator, or they are relations"; it is not asked that all is known. */
    private static void promise42WithoutGenerators() {
        Eggboxery x = new Eggboxery();
        for (int bits : new int[] {1, 0, 2, -1}) {
            Check.refused("42 a new object", UNSUPPORTED, () -> x.together(bits));
            Check.refused("43 a new object", UNSUPPORTED, () -> x.togetherAt(bits, 0));
        }
        Check.add(x, 0);
        Check.due("42 one generator is enough", x.together(1), 0);
        Eggboxery y = Check.relations(2);
        Check.refused("42 neither generators nor maps", UNSUPPORTED, () -> y.together(1));
        Check.add(y, 1, 1);
        Check.refused("42 no maps", UNSUPPORTED, () -> y.together(1));
        Check.refused("43 no maps", UNSUPPORTED, () -> y.togetherAt(1, 0));
        Check.due("42 too many elements do not matter", Check.tooMany().together(3), 1);
    }

    private static void promise42ShortestAndLongest() {
        // Turns, and one point sent to the next one: of n points (n - 1) squared.
        int[] due = {0, 1, 4, 9, 16, 25};
        for (int points = 2; points <= 6; points++) {
            int[] turn = new int[points];
            int[] next = new int[points];
            for (int point = 0; point < points; point++) {
                turn[point] = (point + 1) % points;
                next[point] = Math.max(point, 1);
            }
            Eggboxery x = Check.maps(points, turn, next);
            Check.due("42 all of " + points, x.together((1 << points) - 1), due[points - 1]);
            Check.due("42 two of " + points, x.together(3), 1);
        }
    }

    // ---- 43: "the index, from 0"; "if there is no such word, or index in it" ----

    private static void promise43Indices() {
        Eggboxery x = Check.maps(4, Check.g(1, 2, 3, 0), Check.g(1, 1, 2, 3));
        String due = "100010001";
        for (int index = 0; index < 9; index++) {
            Check.due("43 the generator " + index, x.togetherAt(15, index), due.charAt(index) - '0');
        }
        Check.refused("43 behind the last one", NONE, () -> x.togetherAt(15, 9));
        Check.refused("43 ahead of the first one", NONE, () -> x.togetherAt(15, -1));
        for (int wild : WILD) {
            Check.refused("43 no index", NONE, () -> x.togetherAt(15, wild));
        }
        Check.due("43 one generator alone", x.togetherAt(3, 0), 1);
        Check.refused("43 no second one", NONE, () -> x.togetherAt(3, 1));
    }

    /** "of several the first one, compared from the front". */
    private static void promise43TheFirstOfSeveral() {
        Eggboxery x = Check.maps(2, Check.g(0, 1), Check.g(1, 1), Check.g(0, 0), Check.g(1, 1));
        Check.due("43 the first of three", x.togetherAt(3, 0), 1);
        // 02 and 12 do, and so do 20 and 21: none of one generator.
        Eggboxery y = Check.maps(3, Check.g(0, 1, 1), Check.g(1, 1, 2), Check.g(0, 2, 2));
        Check.due("43 two generators", y.together(7), 2);
        Check.due("43 the first one of the first word", y.togetherAt(7, 0), 0);
        Check.due("43 the last one of the first word", y.togetherAt(7, 1), 1);
    }

    // ---- 44: "the point to begin"; "the points to end as bits" ----

    private static void promise44Points() {
        for (int points = 1; points <= 6; points++) {
            Eggboxery x = new Eggboxery();
            x.begin('t', points);
            int all = (1 << points) - 1;
            int before = 0;
            for (int begin = 0; begin < points; begin++) {
                for (int ends : new int[] {0, 1, all}) {
                    Check.due("44 of " + points, x.automaton(begin, ends), before);
                    before = 100 * begin + ends;
                }
            }
            int none = points;
            Check.refused("44 a point behind " + points, ILLEGAL, () -> x.automaton(none, 1));
            Check.refused("44 a point ahead of " + points, ILLEGAL, () -> x.automaton(-1, 1));
            Check.refused("44 more than all of " + points, ILLEGAL, () -> x.automaton(0, all + 1));
            Check.refused("44 less than none of " + points, ILLEGAL, () -> x.automaton(0, -1));
            for (int wild : WILD) {
                Check.refused("44 no point to begin", ILLEGAL, () -> x.automaton(wild, 1));
                Check.refused("44 no points to end", ILLEGAL, () -> x.automaton(0, wild));
            }
            Check.due("44 what throws sets nothing", x.automaton(0, 0), before);
        }
    }

    /** "Returns 100 times the point before, plus the bits." */
    private static void promise44Before() {
        Eggboxery x = new Eggboxery();
        Check.due("44 at first", x.automaton(0, 0), 0);
        x.begin('t', 6);
        x.automaton(5, 63);
        Check.due("44 the greatest", x.automaton(0, 0), 563);
        Check.due("44 none to end", x.automaton(5, 0), 0);
        Check.due("44 the last one, and none to end", x.automaton(0, 63), 500);
        Check.due("44 the first one, and all to end", x.automaton(0, 0), 63);
        x.automaton(3, 9);
        x.begin('t', 6);
        Check.due("44 begun anew", x.automaton(0, 0), 0);
    }

    private static void promise44WithoutGenerators() {
        Check.due("44 without generators", new Eggboxery().automaton(0, 1), 0);
        Check.due("44 too many elements", Check.tooMany().automaton(3, 15), 0);
        Eggboxery x = Check.relations(1);
        Check.refused("44 relations", UNSUPPORTED, () -> x.automaton(0, 1));
        Check.refused("44 what is listed first", UNSUPPORTED, () -> x.automaton(1, 2));
    }

    // ---- 45: "a word, the empty one too, is accepted if it leads from the former to one of the latter" ----

    private static void promise45TheEmptyWord() {
        Eggboxery x = new Eggboxery();
        Check.due("45 a new object: no ends", x.accepts(), false);
        x.automaton(0, 1);
        Check.due("45 it begins where it ends", x.accepts(), true);
        x.begin('t', 6);
        for (int begin = 0; begin < 6; begin++) {
            for (int end = 0; end < 6; end++) {
                x.automaton(begin, 1 << end);
                Check.due("45 the empty word from " + begin + " to " + end, x.accepts(), begin == end);
            }
            x.automaton(begin, 0);
            Check.due("45 no ends", x.accepts(), false);
            x.automaton(begin, 63);
            Check.due("45 all ends", x.accepts(), true);
        }
    }

    private static void promise45FullRow() {
        Eggboxery x = Check.maps(6, Check.g(1, 2, 3, 4, 5, 0));
        for (int length = 1; length <= 20; length++) {
            x.type(0);
            x.automaton(0, 1 << length % 6);
            Check.due("45 a word of " + length, x.accepts(), true);
            x.automaton(0, 63 - (1 << length % 6));
            Check.due("45 to no other point", x.accepts(), false);
        }
        Check.due("45 it stays", x.wipe(), 20);
    }

    private static void promise45ToNone() {
        Eggboxery x = Check.maps(2, Check.g(1, -1), Check.g(0, 0));
        x.automaton(0, 3);
        Check.row(x, 0);
        Check.due("45 to the last point", x.accepts(), true);
        Check.row(x, 0);
        Check.due("45 and from there to none", x.accepts(), false);
        Check.row(x, 1);
        Check.due("45 from none there is no way back", x.accepts(), false);
    }

    /** "if the row has something that is no generator": the same bounds as of words, but for the empty one. */
    private static void promise45Generators() {
        for (int generators = 0; generators <= 4; generators++) {
            Eggboxery x = new Eggboxery();
            x.begin('t', 4);
            for (int number = 0; number < generators; number++) {
                Check.add(x, number, number, number, number);
            }
            for (int number = -1; number <= 9; number++) {
                x.wipe();
                x.type(number);
                x.automaton(0, number >= 0 && number < 4 ? 1 << number : 15);
                Object due = number >= 0 && number < generators ? (Object) true : "throws." + ILLEGAL;
                Check.due("45 of " + generators + " the generator " + number, Check.answerOf(x::accepts), due);
            }
        }
        Eggboxery y = Check.relations(2, Check.g(1, 1));
        Check.refused("45 relations, an empty row", UNSUPPORTED, y::accepts);
        y.type(9);
        Check.refused("45 what is listed first", UNSUPPORTED, y::accepts);
    }

    // ---- 46: "those that are not told apart are put together" ----

    private static void promise46NoEnds() {
        Check.due("46 of a chain, no ends", chain().syntactic(), 1);
        Check.due("46 of all maps of three, no ends", Check.allMapsOfThree().syntactic(), 1);
        Eggboxery x = Check.allMapsOfThree();
        x.automaton(2, 7);
        x.automaton(2, 0);
        Check.due("46 none again", x.syntactic(), 1);
    }

    /** Without none all words are accepted; with none those are that do not lead there. */
    private static void promise46AllEnds() {
        Eggboxery x = Check.allMapsOfThree();
        x.automaton(0, 7);
        Check.due("46 all ends", x.syntactic(), 1);
        Eggboxery y = chain();
        y.automaton(0, 63);
        Check.due("46 all ends, and then none", y.syntactic(), 6);
        y.automaton(5, 63);
        Check.due("46 none at once", y.syntactic(), 1);
        y.automaton(4, 63);
        Check.due("46 one step ahead of none", y.syntactic(), 2);
    }

    /** "words, perhaps empty, s ahead and t behind". */
    private static void promise46WordsPerhapsEmpty() {
        // Two constants: one leads to the end, and no word behind, but for the empty one, tells them apart.
        Eggboxery x = Check.maps(2, Check.g(0, 0), Check.g(1, 1));
        x.automaton(0, 2);
        Check.due("46 with nothing behind", x.syntactic(), 2);
        // From the point 2, where it begins, no word leads back, so that only with nothing ahead they differ.
        Eggboxery y = Check.maps(3, Check.g(0, 0, 0), Check.g(0, 0, 1));
        y.automaton(2, 2);
        Check.due("46 with nothing ahead", y.syntactic(), 2);
        y.automaton(1, 2);
        Check.due("46 it begins elsewhere", y.syntactic(), 1);
        // Neither a nor aa leads to the end, but aa does with a behind.
        Eggboxery z = Check.maps(4, Check.g(1, 2, 3, 3));
        z.automaton(0, 8);
        Check.due("46 with something behind", z.syntactic(), 3);
    }

    private static void promise46OneAndTwoHundred() {
        Eggboxery one = Check.maps(1, Check.g(0));
        Check.due("46 one element", one.syntactic(), 1);
        one.automaton(0, 1);
        Check.due("46 one element, an end", one.syntactic(), 1);
        Shop most = twoHundred().withAutomaton(0, 21);
        Check.due("46 of 200", most.make().syntactic(), most.model().syntactic());
        Eggboxery more = twoHundred().make();
        Check.add(more, TO_NONE);
        Check.refused("46 of 201", UNSUPPORTED, more::syntactic);
        Check.refused("47 of 201", UNSUPPORTED, () -> more.isLanguage('a'));
        Check.refused("48 of 201", UNSUPPORTED, more::imageSets);
        Check.refused("49 of 201", UNSUPPORTED, more::levels);
    }

    // ---- 47: "'a', 'b', 'c' or 'n'" ----

    private static void promise47Kinds() {
        Eggboxery x = Check.maps(1, Check.g(0));
        for (int kind = 0; kind < 256; kind++) {
            char asked = (char) kind;
            Object due = "abcn".indexOf(asked) >= 0 ? (Object) true : "throws." + ILLEGAL;
            Check.due("47 kind " + kind, Check.answerOf(() -> x.isLanguage(asked)), due);
        }
        Check.refused("47 the greatest sign", ILLEGAL, () -> x.isLanguage((char) 65535));
        Check.refused("47 what is listed first", UNSUPPORTED, () -> new Eggboxery().isLanguage('?'));
        Check.refused("47 relations first", UNSUPPORTED, () -> Check.relations(1, Check.g(1)).isLanguage('?'));
    }

    private static String kindsOf(Eggboxery x, int begin, int ends) {
        x.automaton(begin, ends);
        StringBuilder kinds = new StringBuilder();
        for (char kind : "abcn".toCharArray()) {
            kinds.append(x.isLanguage(kind) ? kind : '-');
        }
        return kinds.toString();
    }

    private static void promise47NoEnds() {
        Check.due("47 of a chain", kindsOf(chain(), 0, 0), "abcn");
        Check.due("47 of all maps of three", kindsOf(Check.allMapsOfThree(), 1, 0), "abcn");
        Check.due("47 of orders of four", kindsOf(Check.ordersOfFour(), 3, 0), "abcn");
    }

    private static void promise47EachKind() {
        Eggboxery swap = Check.maps(2, Check.g(1, 0));
        Check.due("47 a group of two", kindsOf(swap, 0, 1), "--c-");
        Check.due("47 all ends", kindsOf(swap, 0, 3), "abcn");
        Eggboxery chain = chain();
        Check.due("47 a chain", kindsOf(chain, 0, 32), "a-cn");
        Check.due("47 two elements of it", kindsOf(chain, 4, 32), "a-cn");
        Check.due("47 one element of it", kindsOf(chain, 5, 32), "abcn");
        Eggboxery both = Check.maps(2, Check.g(0, 0), Check.g(1, 1));
        Check.due("47 what comes last", kindsOf(both, 0, 2), "ab--");
        Eggboxery zero = Check.maps(2, Check.g(0, 1), Check.g(1, 1));
        Check.due("47 two idempotents, and a zero", kindsOf(zero, 0, 2), "abc-");
        Check.due("47 the zero alone", kindsOf(zero, 1, 2), "abcn");
    }

    // ---- 48: "all points, each one point, and what an image set becomes by a generator, if it is not empty" ----

    private static void promise48OneAndMany() {
        Check.due("48 all points are one point", Check.maps(1, Check.g(0)).imageSets(), 1);
        int[] due = {1, 3, 4, 5, 6, 7};
        for (int points = 1; points <= 6; points++) {
            Check.due("48 all stay, of " + points, Check.maps(points, first(points, STAY)).imageSets(),
                    due[points - 1]);
        }
        Check.due("48 each set but the empty one", Check.allMapsOfThree().imageSets(), 7);
        Shop most = twoHundred();
        Check.due("48 of 200 elements", most.make().imageSets(), most.model().imageSets());
        Check.due("48 two sets of two points", Check.maps(4, Check.g(1, 2, 2, 2), Check.g(3, 3, 0, 0)).imageSets(), 7);
    }

    private static void promise48NotEmpty() {
        int[] due = {1, 3, 4, 5, 6, 7};
        for (int points = 1; points <= 6; points++) {
            Check.due("48 all to none, of " + points, Check.maps(points, first(points, TO_NONE)).imageSets(),
                    due[points - 1]);
        }
        Check.due("48 a chain", chain().imageSets(), 11);
    }

    // ---- 49: "the greatest number of image sets in a row, each below the next one, that not below it" ----

    private static void promise49OneAndMany() {
        Check.due("49 one set", Check.maps(1, Check.g(0)).levels(), 1);
        Check.due("49 one set to none", Check.maps(1, Check.g(-1)).levels(), 1);
        for (int points = 2; points <= 6; points++) {
            Check.due("49 all stay, of " + points, Check.maps(points, first(points, STAY)).levels(), 2);
            Check.due("49 all to none, of " + points, Check.maps(points, first(points, TO_NONE)).levels(), 2);
        }
        Shop chain = Shop.maps("chain", 6, Check.g(1, 2, 3, 4, 5, -1));
        Check.due("49 a chain", chain.make().levels(), chain.model().levels());
        Shop most = twoHundred();
        Check.due("49 of 200 elements", most.make().levels(), most.model().levels());
    }

    /** Points that become one another are below one another, so that just one of them is in a row. */
    private static void promise49NotBelowIt() {
        Check.due("49 a turn: all, and one", Check.maps(4, Check.g(1, 2, 3, 0)).levels(), 2);
        Check.due("49 one point to the next one", Check.maps(2, Check.g(1, 1)).levels(), 3);
        Check.due("49 two constants", Check.maps(2, Check.g(0, 0), Check.g(1, 1)).levels(), 2);
        Check.due("49 all maps of three points", Check.allMapsOfThree().levels(), 3);
    }

    private static void promises46To49Relations() {
        Eggboxery x = Check.relations(1, Check.g(1));
        Check.due("6 all is known", x.size(), 1);
        Check.refused("46 relations", UNSUPPORTED, x::syntactic);
        Check.refused("47 relations", UNSUPPORTED, () -> x.isLanguage('a'));
        Check.refused("48 relations", UNSUPPORTED, x::imageSets);
        Check.refused("49 relations", UNSUPPORTED, x::levels);
        x.begin('t', 1);
        Check.refused("46 maps, but no generator", UNSUPPORTED, x::syntactic);
        Check.add(x, 0);
        Check.due("46 maps, and a generator", x.syntactic(), 1);
    }
}
