import java.util.function.BiFunction;

/** The bounds of promises 6 to 17, and of what 'Things' and 'Elements' say: just inside, at them, just beyond. */
public final class EdgesOfElementsTest {
    private static final String ILLEGAL = "IllegalArgumentException";
    private static final String UNSUPPORTED = "UnsupportedOperationException";
    private static final String OUTSIDE = "IndexOutOfBoundsException";
    private static final String NONE = "NoSuchElementException";

    public static void main(String[] args) {
        promise6FewestElements();
        promise6TwoHundredElements();
        promise6RelationsToo();
        promise6FirstAndLastOfTwoHundred();
        promise7NonePoints();
        promise7Points();
        promise8ShortestAndLongest();
        promise9FirstAndLastGenerator();
        promise9TheFirstOfSeveral();
        promise10ByMapsToNone();
        promise10ByRelationsToNone();
        promise10FirstAndLast();
        promise11LeastPower();
        promise11GreatestPower();
        promise11AroundIndexAndPeriod();
        promise12OwnSquares();
        promise13LeastAndGreatestIndex();
        promise14LeastAndGreatestPeriod();
        promise15FirstAndLast();
        promise15RowStays();
        promise16LengthsOfWords();
        promise16Generators();
        promise17FewestRules();
        promise17OneGeneratorAlone();
        Check.end();
    }

    private static final int[] TO_NONE = {-1, -1, -1, -1, -1, -1};

    /** Two maps with 199 elements, among them neither the one that leaves all nor the one that leads all to none. */
    private static Eggboxery withTwoHundredLessOne() {
        return Check.maps(6, Check.g(1, 3, 5, 4, 0, 0), Check.g(1, 5, 3, 2, 5, 5));
    }

    private static Eggboxery withTwoHundred() {
        Eggboxery x = withTwoHundredLessOne();
        Check.add(x, 0, 1, 2, 3, 4, 5);
        return x;
    }

    /** 0 to 1 to 2 and so on to 5, and from there to none: its powers are six, the last one to none. */
    private static Eggboxery chain() {
        return Check.maps(6, Check.g(1, 2, 3, 4, 5, -1));
    }

    // ---- 6: "All is known if there is a generator, and there are at most 200 elements." ----

    private static void promise6FewestElements() {
        Eggboxery x = new Eggboxery();
        Check.refused("6 no generator", UNSUPPORTED, x::size);
        Check.add(x, 0);
        Check.due("6 one generator, one element", x.size(), 1);
        Check.add(x, 0);
        Check.due("6 the same one again", x.size(), 1);
        Check.add(x, -1);
        Check.due("6 another one", x.size(), 2);
        x.begin('t', 1);
        Check.refused("6 no generator again", UNSUPPORTED, x::size);
    }

    private static void promise6TwoHundredElements() {
        Eggboxery x = withTwoHundredLessOne();
        Check.due("6 one fewer than may be", x.size(), 199);
        Check.add(x, 0, 1, 2, 3, 4, 5);
        Check.due("6 as many as may be", x.size(), 200);
        Check.add(x, TO_NONE);
        Check.refused("6 one more than may be", UNSUPPORTED, x::size);
        Check.refused("6 and no element is known", UNSUPPORTED, () -> x.length(0));
        x.begin('t', 6);
        Check.add(x, TO_NONE);
        Check.due("6 begun anew", x.size(), 1);
    }

    private static void promise6RelationsToo() {
        Eggboxery x = Check.relations(3, Check.g(2, 4, 1), Check.g(2, 1, 4));
        Check.due("6 orders of three as relations", x.size(), 6);
        Check.add(x, 3, 2, 4);
        Check.refused("6 too many relations", UNSUPPORTED, x::size);
        Check.refused("6 no relation", UNSUPPORTED, noRelation()::size);
    }

    private static Eggboxery noRelation() {
        return Check.relations(3);
    }

    /** "if there is no such element": of 200 the last one is 199. */
    private static void promise6FirstAndLastOfTwoHundred() {
        Eggboxery x = withTwoHundred();
        bounds("7 image", x, (w, element) -> w.image(element, 5));
        bounds("8 length", x, (w, element) -> w.length(element));
        bounds("9 letter", x, (w, element) -> w.letter(element, 0));
        bounds("10 product, left", x, (w, element) -> w.product(element, 199));
        bounds("10 product, right", x, (w, element) -> w.product(199, element));
        bounds("11 power", x, (w, element) -> w.power(element, Integer.MAX_VALUE));
        bounds("12 omega", x, (w, element) -> w.omega(element));
        bounds("13 index", x, (w, element) -> w.index(element));
        bounds("14 period", x, (w, element) -> w.period(element));
        bounds("19 classOf", x, (w, element) -> w.classOf(element, 'H'));
        bounds("20 isBelow, left", x, (w, element) -> w.isBelow(element, 199, 'J') ? 1 : 0);
        bounds("20 isBelow, right", x, (w, element) -> w.isBelow(199, element, 'J') ? 1 : 0);
        bounds("21 inverses", x, (w, element) -> w.inverses(element));
        bounds("25 sides", x, (w, element) -> w.sides(element, true));
        bounds("26 group", x, (w, element) -> w.group(element));
        bounds("27 meets", x, (w, element) -> w.meets(element, 0, 0) ? 1 : 0);
        bounds("28 height", x, (w, element) -> w.height(element));
        bounds("32 merged, first", x, (w, element) -> w.merged(element, 199));
        bounds("32 merged, second", x, (w, element) -> w.merged(199, element));
        bounds("33 areMerged, first", x, (w, element) -> w.areMerged(element, 199, 0, 199) ? 1 : 0);
        bounds("33 areMerged, second", x, (w, element) -> w.areMerged(199, element, 0, 199) ? 1 : 0);
        bounds("33 areMerged, third", x, (w, element) -> w.areMerged(0, 199, element, 199) ? 1 : 0);
        bounds("33 areMerged, fourth", x, (w, element) -> w.areMerged(0, 199, 199, element) ? 1 : 0);
    }

    private static void bounds(String call, Eggboxery x, BiFunction<Eggboxery, Integer, Object> asked) {
        for (int element : new int[] {0, 1, 198, 199}) {
            Object answer = Check.answerOf(() -> asked.apply(x, element));
            Check.due(call + " of " + element, answer instanceof Integer && (Integer) answer >= -1, true);
        }
        for (int none : new int[] {-1, 200, 201, Integer.MIN_VALUE, Integer.MAX_VALUE}) {
            Check.refused(call + " of " + none, OUTSIDE, () -> asked.apply(x, none));
        }
    }

    // ---- 7: "Returns the point, -1, or the points as bits." ----

    private static void promise7NonePoints() {
        Eggboxery x = Check.maps(6, Check.g(5, 0, -1, 3, 4, 2), TO_NONE);
        int[] due = {5, 0, -1, 3, 4, 2};
        for (int point = 0; point < 6; point++) {
            Check.due("7 the image of " + point, x.image(0, point), due[point]);
            Check.due("7 to none from " + point, x.image(1, point), -1);
        }
        Eggboxery y = Check.relations(3, Check.g(0, 7, 4), Check.g(0, 0, 0), Check.g(7, 7, 7));
        int[] bits = {0, 7, 4};
        for (int point = 0; point < 3; point++) {
            Check.due("7 the images of " + point, y.image(0, point), bits[point]);
            Check.due("7 to none from " + point, y.image(1, point), 0);
            Check.due("7 to all from " + point, y.image(2, point), 7);
        }
    }

    /** "if there is no such element or point": of n points the last one is n - 1. */
    private static void promise7Points() {
        for (int points = 1; points <= 6; points++) {
            Eggboxery x = new Eggboxery();
            x.begin('t', points);
            for (int point = 0; point < points; point++) {
                x.type(points - 1 - point);
            }
            x.generator();
            int end = points;
            Check.due("7 the first of " + points, x.image(0, 0), points - 1);
            Check.due("7 the last of " + points, x.image(0, points - 1), 0);
            Check.refused("7 none behind " + points, OUTSIDE, () -> x.image(0, end));
            Check.refused("7 none ahead of " + points, OUTSIDE, () -> x.image(0, -1));
        }
        for (int points = 1; points <= 3; points++) {
            Eggboxery x = new Eggboxery();
            x.begin('r', points);
            for (int point = 0; point < points; point++) {
                x.type(point);
            }
            x.generator();
            int end = points;
            Check.due("7 the last relation of " + points, x.image(0, points - 1), points - 1);
            Check.refused("7 no relation behind " + points, OUTSIDE, () -> x.image(0, end));
            Check.refused("7 no relation ahead of " + points, OUTSIDE, () -> x.image(0, -1));
        }
    }

    // ---- 8 and 9: "the shortest of its words, of several the first, compared from the front" ----

    private static void promise8ShortestAndLongest() {
        Eggboxery x = chain();
        Check.due("8 six powers", x.size(), 6);
        for (int element = 0; element < 6; element++) {
            Check.due("8 the length of a power", x.length(element), element + 1);
        }
        Check.refused("8 none ahead of the first", OUTSIDE, () -> x.length(-1));
        Check.refused("8 none behind the last", OUTSIDE, () -> x.length(6));
        Eggboxery y = Check.maps(3, Check.g(0, 1, 2), Check.g(1, 2, 0));
        Check.due("8 what leaves all has a word, too", y.length(0), 1);
    }

    private static void promise9FirstAndLastGenerator() {
        Eggboxery x = Check.steps();
        Check.due("9 the first of ab", x.letter(3, 0), 0);
        Check.due("9 the last of ab", x.letter(3, 1), 1);
        Check.refused("9 behind the last", OUTSIDE, () -> x.letter(3, 2));
        Check.refused("9 ahead of the first", OUTSIDE, () -> x.letter(3, -1));
        Check.due("9 the only one of b", x.letter(1, 0), 1);
        Check.refused("9 behind the only one", OUTSIDE, () -> x.letter(1, 1));
        Eggboxery y = chain();
        Check.due("9 the sixth", y.letter(5, 5), 0);
        Check.refused("9 a seventh", OUTSIDE, () -> y.letter(5, 6));
        Check.refused("9 a second one of the first", OUTSIDE, () -> y.letter(0, 1));
        Eggboxery four = Check.maps(2, Check.g(0, 0), Check.g(1, 1), Check.g(-1, -1), Check.g(0, 1));
        Check.due("9 the last generator", four.letter(3, 0), 3);
    }

    /** A generator that is there twice is told by the lower number, and so is each word with it. */
    private static void promise9TheFirstOfSeveral() {
        Eggboxery x = Check.maps(3, Check.g(1, -1, -1), Check.g(1, -1, -1), Check.g(-1, 2, -1), Check.g(-1, 2, -1));
        Check.due("9 four elements", x.size(), 4);
        Check.due("9 the first of two", x.letter(0, 0), 0);
        Check.due("9 the first of two others", x.letter(1, 0), 2);
        Check.due("9 aa ahead of ac", x.letter(2, 0) * 10 + x.letter(2, 1), 0);
        Check.due("9 ac, not bd", x.letter(3, 0) * 10 + x.letter(3, 1), 2);
        // aab, aba, abb and more make the same: the shortest one counts before the first one.
        Eggboxery y = Check.maps(3, Check.g(0, 1, 1), Check.g(1, 1, 2), Check.g(1, 1, 1));
        Check.due("9 a word of one, though ab is ahead of c", y.length(y.product(0, 1)), 1);
        Check.due("9 and this is c", y.letter(y.product(0, 1), 0), 2);
    }

    // ---- 10: "by maps to none if either does" ----

    private static void promise10ByMapsToNone() {
        Eggboxery x = Check.maps(3, Check.g(1, -1, 2), Check.g(0, -1, 0));
        int ab = x.product(0, 1);
        Check.due("10 the second one leads to none", x.image(ab, 0), -1);
        Check.due("10 the first one leads to none", x.image(ab, 1), -1);
        Check.due("10 neither does", x.image(ab, 2), 0);
        int ba = x.product(1, 0);
        Check.due("10 the other way about", x.image(ba, 0) * 100 + x.image(ba, 1) * 10 + x.image(ba, 2), 91);
    }

    private static void promise10ByRelationsToNone() {
        Eggboxery x = Check.relations(3, Check.g(6, 0, 3), Check.g(0, 4, 0));
        int ab = x.product(0, 1);
        Check.due("10 by one of two", x.image(ab, 0), 4);
        Check.due("10 from none", x.image(ab, 1), 0);
        Check.due("10 by the other one of two", x.image(ab, 2), 4);
        int ba = x.product(1, 0);
        Check.due("10 from none, by 2, from none", x.image(ba, 0) * 100 + x.image(ba, 1) * 10 + x.image(ba, 2), 30);
    }

    private static void promise10FirstAndLast() {
        Eggboxery x = chain();
        Check.due("10 the first ones", x.product(0, 0), 1);
        Check.due("10 the last ones", x.product(5, 5), 5);
        Check.due("10 the last one but one", x.product(0, 4), 5);
        Check.refused("10 left one behind", OUTSIDE, () -> x.product(6, 0));
        Check.refused("10 right one behind", OUTSIDE, () -> x.product(0, 6));
        Check.refused("10 both behind", OUTSIDE, () -> x.product(6, 6));
    }

    // ---- 11: "the power, 1 to 2147483647" ----

    private static void promise11LeastPower() {
        Eggboxery x = Check.allMapsOfThree();
        for (int element = 0; element < 27; element++) {
            int a = element;
            Check.due("11 the first power", x.power(a, 1), a);
            Check.due("11 the second power", x.power(a, 2), x.product(a, a));
            Check.refused("11 power 0", ILLEGAL, () -> x.power(a, 0));
            Check.refused("11 power -1", ILLEGAL, () -> x.power(a, -1));
        }
        Check.refused("11 the least int", ILLEGAL, () -> x.power(0, Integer.MIN_VALUE));
        Check.refused("11 what is listed first", OUTSIDE, () -> x.power(27, 0));
        Check.due("11 an identity has none but itself", x.power(x.special('i'), Integer.MAX_VALUE), x.special('i'));
    }

    private static void promise11GreatestPower() {
        // 2147483647 is 1 by 2, 1 by 3, 3 by 4, 2 by 5, 1 by 6.
        int[][] turns = {{1, 0}, {1, 2, 0}, {1, 2, 3, 0}, {1, 2, 3, 4, 0}, {1, 2, 3, 4, 5, 0}};
        int[] due = {0, 0, 2, 1, 0};
        for (int turn = 0; turn < turns.length; turn++) {
            Eggboxery x = Check.maps(turn + 2, turns[turn]);
            Check.due("11 the greatest power of a turn", x.power(0, Integer.MAX_VALUE), due[turn]);
            Check.due("11 and times one more", x.product(x.power(0, Integer.MAX_VALUE - 1), 0), due[turn]);
        }
        Check.due("11 of a chain", chain().power(0, Integer.MAX_VALUE), 5);
        Check.due("11 of what stays", Check.maps(1, Check.g(0)).power(0, Integer.MAX_VALUE), 0);
    }

    private static void promise11AroundIndexAndPeriod() {
        // Index 2, period 3: a, aa, aaa, aaaa, and then aa again.
        Eggboxery x = Check.powers();
        Check.due("11 ahead of the index", x.power(0, 1), 0);
        Check.due("11 the index", x.power(0, 2), 1);
        Check.due("11 the last new one", x.power(0, 4), 3);
        Check.due("11 index and period", x.power(0, 5), 1);
        Check.due("11 two periods", x.power(0, 8), 1);
        Check.due("11 the square of the greatest int's half", x.power(0, 1 << 30), x.power(0, 1 + 3 * 5));
    }

    // ---- 12 to 14: "the one of its powers that is its own square"; "the least k and p of 1 or more" ----

    private static void promise12OwnSquares() {
        Eggboxery x = Check.maps(1, Check.g(0));
        Check.due("12 of one alone", x.omega(0), 0);
        Eggboxery y = chain();
        for (int element = 0; element < 6; element++) {
            Check.due("12 of each power the last one", y.omega(element), 5);
        }
        Check.refused("12 none ahead", OUTSIDE, () -> y.omega(-1));
        Check.refused("12 none behind", OUTSIDE, () -> y.omega(6));
        Eggboxery z = Check.constants();
        Check.due("12 its own square", z.omega(0) * 100 + z.omega(1) * 10 + z.omega(2), 12);
    }

    private static void promise13LeastAndGreatestIndex() {
        Eggboxery x = chain();
        int[] due = {6, 3, 2, 2, 2, 1};
        for (int element = 0; element < 6; element++) {
            Check.due("13 of a chain", x.index(element), due[element]);
        }
        Check.due("13 of one alone", Check.maps(1, Check.g(-1)).index(0), 1);
        Check.due("13 of a turn", Check.maps(2, Check.g(1, 0)).index(0), 1);
        Check.refused("13 none behind", OUTSIDE, () -> x.index(6));
        Check.refused("13 none ahead", OUTSIDE, () -> x.index(-1));
    }

    private static void promise14LeastAndGreatestPeriod() {
        Eggboxery x = Check.maps(6, Check.g(1, 2, 3, 4, 5, 0));
        int[] due = {6, 3, 2, 3, 6, 1};
        for (int element = 0; element < 6; element++) {
            Check.due("14 of a turn", x.period(element), due[element]);
        }
        Check.due("14 two and three", Check.maps(5, Check.g(1, 0, 3, 4, 2)).period(0), 6);
        Check.due("14 two and four", Check.maps(6, Check.g(1, 0, 3, 4, 5, 2)).period(0), 4);
        Check.due("14 of a chain", chain().period(0), 1);
        Check.refused("14 none behind", OUTSIDE, () -> x.period(6));
        Check.refused("14 none ahead", OUTSIDE, () -> x.period(-1));
    }

    // ---- 15: "the element of the thing that was typed, which stays" ----

    private static void promise15FirstAndLast() {
        Eggboxery x = chain();
        int[][] things = {{1, 2, 3, 4, 5, -1}, {2, 3, 4, 5, -1, -1}, {3, 4, 5, -1, -1, -1}, {4, 5, -1, -1, -1, -1},
            {5, -1, -1, -1, -1, -1}, TO_NONE};
        for (int element = 0; element < 6; element++) {
            x.wipe();
            Check.row(x, things[element]);
            Check.due("15 a power", x.find(), element);
        }
        x.wipe();
        Check.row(x, 0, 1, 2, 3, 4, 5);
        Check.refused("15 what leaves all is none", NONE, x::find);
        x.wipe();
        Check.row(x, 1, 2, 3, 4, 5);
        Check.refused("15 one too few", ILLEGAL, x::find);
        Check.row(x, -1, -1);
        Check.refused("15 one too many", ILLEGAL, x::find);
        x.wipe();
        Check.row(x, 1, 2, 3, 4, 6, -1);
        Check.refused("15 a seventh point", ILLEGAL, x::find);
        x.wipe();
        Check.refused("15 an empty row", ILLEGAL, x::find);
        Eggboxery y = Check.relations(3, Check.g(7, 7, 7), Check.g(0, 0, 0));
        Check.row(y, 0, 0, 0);
        Check.due("15 the relation of none", y.find(), 1);
        y.wipe();
        Check.row(y, 7, 7, 7);
        Check.due("15 the relation of all", y.find(), 0);
        y.wipe();
        Check.row(y, 7, 7, 8);
        Check.refused("15 a fourth bit", ILLEGAL, y::find);
        y.wipe();
        Check.row(y, 7, 7, 6);
        Check.refused("15 no element", NONE, y::find);
    }

    private static void promise15RowStays() {
        Eggboxery x = Check.constants();
        Check.row(x, 1, 1, 1);
        for (int round = 0; round < 3; round++) {
            Check.due("15 it stays", x.find(), 1);
        }
        Check.due("15 so that it may be added", x.generator(), 3);
        Check.refused("15 and then it is gone", ILLEGAL, x::find);
    }

    // ---- 16: "A word is a row of generators, at least one" ----

    private static void promise16LengthsOfWords() {
        Eggboxery x = Check.maps(6, Check.g(1, 2, 3, 4, 5, 0));
        Check.refused("16 an empty row", ILLEGAL, x::word);
        for (int length = 1; length <= 20; length++) {
            x.type(0);
            Check.due("16 a word of " + length, x.word(), (length - 1) % 6);
        }
        Check.due("16 it stays", x.wipe(), 20);
    }

    private static void promise16Generators() {
        for (int generators = 1; generators <= 4; generators++) {
            Eggboxery x = new Eggboxery();
            x.begin('t', 4);
            for (int number = 0; number < generators; number++) {
                Check.add(x, number, number, number, number);
            }
            for (int number = -1; number <= 9; number++) {
                x.wipe();
                x.type(0);
                x.type(number);
                Object due = number >= 0 && number < generators ? (Object) number : "throws." + ILLEGAL;
                Check.due("16 of " + generators + " the generator " + number, Check.answerOf(x::word), due);
            }
        }
    }

    // ---- 17: "not reduced, though what is ahead .., and what is behind .., if there is something, is" ----

    private static void promise17FewestRules() {
        Check.due("17 aa is a", Check.maps(1, Check.g(0)).rules(), 1);
        Check.due("17 a turn of six", Check.maps(6, Check.g(1, 2, 3, 4, 5, 0)).rules(), 1);
        Check.due("17 a chain", chain().rules(), 1);
    }

    /** A generator that is an earlier one is a word that is not reduced, and nothing is ahead or behind. */
    private static void promise17OneGeneratorAlone() {
        Check.due("17 b is a", Check.maps(1, Check.g(0), Check.g(0)).rules(), 2);
        Check.due("17 b, c and d are a", Check.maps(1, Check.g(-1), Check.g(-1), Check.g(-1), Check.g(-1)).rules(), 4);
        // aa, ab, ba and bb, and no longer word, as each has one of them.
        Check.due("17 two that stay", Check.maps(1, Check.g(0), Check.g(-1)).rules(), 4);
        // ab is c, and each other word of two makes one of the three as well.
        Check.due("17 all nine of two", Check.maps(3, Check.g(0, 1, 1), Check.g(1, 1, 2), Check.g(1, 1, 1)).rules(), 9);
    }
}
