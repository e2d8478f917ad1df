import java.util.List;
import java.util.function.Function;

/**
 * "A method that throws an exception changes nothing. If several conditions of a method apply, the exception that is
 * listed first is thrown." Each Throws line of promises 2 to 53, on workshops of all sorts: what is thrown, and that
 * all that can be asked then answers as before. Promises 1, 4 and 54 throw nothing.
 */
public final class RefusalTest {
    private static final String ILLEGAL = "IllegalArgumentException";
    private static final String STATE = "IllegalStateException";
    private static final String UNSUPPORTED = "UnsupportedOperationException";
    private static final String OUTSIDE = "IndexOutOfBoundsException";
    private static final String NONE = "NoSuchElementException";
    private static final int LEAST = Integer.MIN_VALUE;
    private static final int GREATEST = Integer.MAX_VALUE;

    /** A zero and no identity, boxes without a group; the row is an element, the text an equation. */
    private final Everything steps = new Everything(Shop.maps("steps", 3, Check.g(1, -1, -1), Check.g(-1, 2, -1))
            .withAutomaton(0, 4).withRow(2, -1, -1).withText("xy=yx"));
    /** An identity and no zero; the row is a word and no thing, the text asks in free ones. */
    private final Everything orders = new Everything(Shop.maps("orders of three", 3, Check.g(1, 2, 0), Check.g(1, 0, 2))
            .withAutomaton(1, 6).withRow(0, 1).withText("ab=ba"));
    private final Everything pairs = new Everything(Shop.relations("relations", 2, Check.g(3, 0), Check.g(2, 1))
            .withRow(1, 1).withText("x^=xx"));
    /** Nothing is typed, and nothing is set. */
    private final Everything bare = new Everything(Shop.maps("three constants", 3, Check.g(0, 0, 0), Check.g(1, 1, 1),
            Check.g(2, 2, 2)));
    private final Everything untouched = new Everything(Shop.untouched());
    private final Everything noMaps = new Everything(Shop.maps("no maps", 3).withAutomaton(2, 5).withRow(0, 2, 1)
            .withText("x=xx"));
    private final Everything noRelations = new Everything(Shop.relations("no relations", 3).withRow(7, 0, 3)
            .withText("a=aa"));
    private final Everything tooManyMaps = new Everything(Shop.maps("256 maps", 4, Check.g(1, 2, 3, 0),
            Check.g(1, 0, 2, 3), Check.g(0, 0, 2, 3)).withAutomaton(3, 9).withRow(0, 0, 0, 1).withText("acb=cab"));
    private final Everything tooManyRelations = new Everything(Shop.relations("too many relations", 3,
            Check.g(2, 4, 1), Check.g(2, 1, 4), Check.g(3, 2, 4)).withRow(0, 7, 5).withText("(x)^=x^"));
    /** The row and the text are full, and there is no generator more to be had. */
    private final Everything full = new Everything(Shop.maps("all full", 2, Check.g(1, 0), Check.g(0, 0),
            Check.g(0, -1), Check.g(1, 0)).withAutomaton(1, 1)
            .withRow(0, 1, 2, 3, 0, 1, 2, 3, 0, 1, 2, 3, 0, 1, 2, 3, 0, 1, 2, 3).withText("(xy)^(xy)=(xy)^(xy)^(xy)"));
    /** The row would be a fifth generator. */
    private final Everything four = new Everything(Shop.maps("four generators", 2, Check.g(1, 0), Check.g(1, 0),
            Check.g(0, 0), Check.g(0, 1)).withRow(1, 1).withText("abc=cba"));

    private final List<Everything> known = List.of(steps, orders, pairs, bare, full, four);
    private final List<Everything> unknown = List.of(untouched, noMaps, noRelations, tooManyMaps, tooManyRelations);

    public static void main(String[] args) {
        RefusalTest test = new RefusalTest();
        test.sizes();
        test.promises2To5();
        test.promise5Rows();
        test.promises6To17WithoutAll();
        test.promises6To17();
        test.promises15And16();
        test.promises18To31WithoutAll();
        test.promises18To28();
        test.promises22To31();
        test.promises32To36();
        test.promises34To36Bounds();
        test.promises37To41();
        test.promise38Texts();
        test.promise38Ways();
        test.promise40Texts();
        test.promises42And43();
        test.promises44To45();
        test.promises46To49();
        test.promises50To53();
        eachPromise();
        Check.end();
    }

    private static void refused(List<Everything> shops, String promise, String exception, String call,
            Function<Eggboxery, Object> asking) {
        for (Everything shop : shops) {
            shop.refused(promise, exception, call, asking);
        }
    }

    private static int[] outside(int end) {
        return new int[] {-1, end, LEAST, GREATEST};
    }

    /** Each promise that has a Throws line had a call that was refused. */
    private static void eachPromise() {
        for (int promise = 1; promise <= 54; promise++) {
            boolean isThrowing = promise != 1 && promise != 4 && promise != 54;
            Check.due("a refused call of promise " + promise, Everything.promises().contains(promise), isThrowing);
        }
    }

    /** What the bounds below go by. */
    private void sizes() {
        Check.due("6 steps", steps.size(), 4);
        Check.due("6 orders of three", orders.size(), 6);
        Check.due("6 relations", pairs.size(), 4);
        Check.due("6 constants", bare.size(), 3);
        Check.due("6 without generators, or too many", noMaps.size() + tooManyMaps.size() + tooManyRelations.size(), 0);
    }

    // ---- Promises 2 to 5 ----

    private void promises2To5() {
        List<Everything> all = List.of(steps, pairs, untouched, noMaps, tooManyMaps, full);
        for (char kind : new char[] {'s', 'u', 'q', 'T', 'R', (char) 0, (char) 65535}) {
            refused(all, "2 no such kind", ILLEGAL, "begin(" + (int) kind + ", 1)", x -> x.begin(kind, 1));
        }
        for (int points : new int[] {0, 7, -1, LEAST, GREATEST}) {
            refused(all, "2 out of range", ILLEGAL, "begin(t, " + points + ")", x -> x.begin('t', points));
        }
        for (int points : new int[] {0, 4, -1, LEAST, GREATEST}) {
            refused(all, "2 out of range", ILLEGAL, "begin(r, " + points + ")", x -> x.begin('r', points));
        }
        refused(all, "2 neither", ILLEGAL, "begin(x, 0)", x -> x.begin('x', 0));
        for (int number : new int[] {-2, 10, LEAST, GREATEST}) {
            refused(all, "3 out of range, a full row too", ILLEGAL, "type(" + number + ")", x -> x.type(number));
        }
        for (int number : new int[] {-1, 0, 9}) {
            refused(List.of(full), "3 a full row", STATE, "type(" + number + ")", x -> x.type(number));
        }
    }

    private void promise5Rows() {
        refused(List.of(untouched, bare), "5 an empty row", ILLEGAL, "generator()", x -> x.generator());
        refused(List.of(orders), "5 a row with one too few", ILLEGAL, "generator()", x -> x.generator());
        refused(List.of(full), "5 a full row, and four generators", ILLEGAL, "generator()", x -> x.generator());
        refused(List.of(four), "5 a fifth one", STATE, "generator()", x -> x.generator());
        Shop[] rows = {
            Shop.maps("a row with one too many", 2, Check.g(1, 0)).withRow(1, 0, 0),
            Shop.maps("a row with a third point of two", 2, Check.g(1, 0)).withRow(0, 2).withText("x=x"),
            Shop.maps("a row with a seventh point of six", 6).withRow(0, 1, 2, 3, 4, 6),
            Shop.maps("a row with a tenth point", 1).withRow(9),
            Shop.relations("a row with less than no points", 2, Check.g(1, 2)).withRow(-1, 0),
            Shop.relations("a row with a second point of one", 1).withRow(2),
            Shop.relations("a row with a third point of two", 2, Check.g(1, 2)).withRow(0, 4),
            Shop.relations("a row with a fourth point of three", 3).withRow(8, 0, 0),
            Shop.relations("a row of relations with one too few", 3).withRow(7, 7),
            Shop.relations("a row of relations with one too many", 2).withRow(3, 3, 3),
            Shop.maps("four generators and no thing", 2, Check.g(1, 0), Check.g(1, 0), Check.g(0, 0), Check.g(0, 1))
                    .withRow(0, 2),
            Shop.maps("four generators and an empty row", 1, Check.g(0), Check.g(0), Check.g(0), Check.g(-1))};
        for (Shop shop : rows) {
            new Everything(shop).refused("5 no such thing", ILLEGAL, "generator()", x -> x.generator());
        }
        Shop relations = Shop.relations("four relations", 1, Check.g(1), Check.g(0), Check.g(1), Check.g(0)).withRow(1);
        new Everything(relations).refused("5 a fifth one", STATE, "generator()", x -> x.generator());
    }

    // ---- Promises 6 to 17 ----

    private void promises6To17WithoutAll() {
        refused(unknown, "6 not all is known", UNSUPPORTED, "size()", x -> x.size());
        for (int none : new int[] {0, -1, GREATEST}) {
            String first = none == 0 ? " not all is known" : " and no element: what is listed first";
            refused(unknown, "7" + first, UNSUPPORTED, "image(" + none + ")", x -> x.image(none, none));
            refused(unknown, "8" + first, UNSUPPORTED, "length(" + none + ")", x -> x.length(none));
            refused(unknown, "9" + first, UNSUPPORTED, "letter(" + none + ")", x -> x.letter(none, none));
            refused(unknown, "10" + first, UNSUPPORTED, "product(" + none + ")", x -> x.product(none, none));
            refused(unknown, "11" + first, UNSUPPORTED, "power(" + none + ", 1)", x -> x.power(none, 1));
            refused(unknown, "11" + first, UNSUPPORTED, "power(" + none + ", 0)", x -> x.power(none, 0));
            refused(unknown, "12" + first, UNSUPPORTED, "omega(" + none + ")", x -> x.omega(none));
            refused(unknown, "13" + first, UNSUPPORTED, "index(" + none + ")", x -> x.index(none));
            refused(unknown, "14" + first, UNSUPPORTED, "period(" + none + ")", x -> x.period(none));
        }
        refused(unknown, "15 not all is known, whatever the row is", UNSUPPORTED, "find()", x -> x.find());
        refused(unknown, "16 not all is known, whatever the row is", UNSUPPORTED, "word()", x -> x.word());
        refused(unknown, "17 not all is known", UNSUPPORTED, "rules()", x -> x.rules());
    }

    private void promises6To17() {
        List<Everything> two = List.of(steps, pairs);
        for (int none : outside(4)) {
            refused(two, "7 no element", OUTSIDE, "image(" + none + ", 0)", x -> x.image(none, 0));
            refused(two, "7 no element and no point", OUTSIDE, "image(" + none + ", -1)", x -> x.image(none, -1));
            refused(two, "8 no element", OUTSIDE, "length(" + none + ")", x -> x.length(none));
            refused(two, "9 no element", OUTSIDE, "letter(" + none + ", 0)", x -> x.letter(none, 0));
            refused(two, "10 no left one", OUTSIDE, "product(" + none + ", 0)", x -> x.product(none, 0));
            refused(two, "10 no right one", OUTSIDE, "product(0, " + none + ")", x -> x.product(0, none));
            refused(two, "11 no element", OUTSIDE, "power(" + none + ", 1)", x -> x.power(none, 1));
            refused(two, "11 no element and no power", OUTSIDE, "power(" + none + ", 0)", x -> x.power(none, 0));
            refused(two, "12 no element", OUTSIDE, "omega(" + none + ")", x -> x.omega(none));
            refused(two, "13 no element", OUTSIDE, "index(" + none + ")", x -> x.index(none));
            refused(two, "14 no element", OUTSIDE, "period(" + none + ")", x -> x.period(none));
        }
        for (int none : outside(3)) {
            refused(List.of(steps), "7 no point", OUTSIDE, "image(0, " + none + ")", x -> x.image(0, none));
        }
        for (int none : outside(2)) {
            refused(List.of(pairs), "7 no point", OUTSIDE, "image(0, " + none + ")", x -> x.image(0, none));
            refused(two, "9 no index", OUTSIDE, "letter(3, " + none + ")", x -> x.letter(3, none));
        }
        for (int none : outside(1)) {
            refused(two, "9 no index", OUTSIDE, "letter(0, " + none + ")", x -> x.letter(0, none));
        }
        for (int none : new int[] {0, -1, LEAST}) {
            refused(known, "11 out of range", ILLEGAL, "power(0, " + none + ")", x -> x.power(0, none));
        }
    }

    private void promises15And16() {
        refused(List.of(bare), "15 an empty row", ILLEGAL, "find()", x -> x.find());
        refused(List.of(orders), "15 a row with one too few", ILLEGAL, "find()", x -> x.find());
        refused(List.of(full), "15 a full row", ILLEGAL, "find()", x -> x.find());
        refused(List.of(pairs), "15 no element", NONE, "find()", x -> x.find());
        Shop[] noThings = {Shop.maps("a third point of two", 2, Check.g(0, 0)).withRow(0, 2),
            Shop.maps("one too many", 2, Check.g(0, 0)).withRow(0, 0, 0),
            Shop.relations("less than no points", 2, Check.g(0, 0)).withRow(0, -1),
            Shop.relations("a third point of two", 2, Check.g(0, 0)).withRow(4, 0)};
        for (Shop shop : noThings) {
            new Everything(shop).refused("15 no such thing", ILLEGAL, "find()", x -> x.find());
        }
        new Everything(Shop.maps("the empty map is none", 2, Check.g(0, 0)).withRow(-1, -1)).refused("15 no element",
                NONE, "find()", x -> x.find());
        refused(List.of(bare), "16 an empty row", ILLEGAL, "word()", x -> x.word());
        refused(List.of(steps), "16 a third generator of two", ILLEGAL, "word()", x -> x.word());
        Shop[] noWords = {Shop.maps("-1 behind a word", 1, Check.g(0)).withRow(0, 0, -1),
            Shop.maps("a second generator of one", 2, Check.g(1, 0)).withRow(1, 0),
            Shop.maps("a fifth generator of four", 1, Check.g(0), Check.g(0), Check.g(0), Check.g(0)).withRow(4),
            Shop.relations("9 in a word", 1, Check.g(1)).withRow(9)};
        for (Shop shop : noWords) {
            new Everything(shop).refused("16 no word", ILLEGAL, "word()", x -> x.word());
        }
    }

    // ---- Promises 18 to 31 ----

    private void promises18To31WithoutAll() {
        for (char by : "RHJ?".toCharArray()) {
            refused(unknown, "18 not all is known", UNSUPPORTED, "classes(" + by + ")", x -> x.classes(by));
            refused(unknown, "19 not all is known", UNSUPPORTED, "classOf(0, " + by + ")", x -> x.classOf(0, by));
            refused(unknown, "19 not all is known", UNSUPPORTED, "classOf(-1, " + by + ")", x -> x.classOf(-1, by));
            refused(unknown, "20 not all is known", UNSUPPORTED, "isBelow(0, 0, " + by + ")",
                    x -> x.isBelow(0, 0, by));
            refused(unknown, "20 not all is known", UNSUPPORTED, "isBelow(-1, -1, " + by + ")",
                    x -> x.isBelow(-1, -1, by));
        }
        for (int none : new int[] {0, -1}) {
            refused(unknown, "21 not all is known", UNSUPPORTED, "inverses(" + none + ")", x -> x.inverses(none));
            refused(unknown, "22 not all is known", UNSUPPORTED, "inverse(" + none + ")", x -> x.inverse(none, none));
            refused(unknown, "24 not all is known", UNSUPPORTED, "idempotent(" + none + ")", x -> x.idempotent(none));
            refused(unknown, "25 not all is known", UNSUPPORTED, "sides(" + none + ")", x -> x.sides(none, none == 0));
            refused(unknown, "26 not all is known", UNSUPPORTED, "group(" + none + ")", x -> x.group(none));
            refused(unknown, "27 not all is known", UNSUPPORTED, "meets(" + none + ")", x -> x.meets(none, none, none));
            refused(unknown, "28 not all is known", UNSUPPORTED, "height(" + none + ")", x -> x.height(none));
        }
        for (char what : "izk?".toCharArray()) {
            refused(unknown, "30 not all is known", UNSUPPORTED, "special(" + what + ")", x -> x.special(what));
        }
        refused(unknown, "23 not all is known", UNSUPPORTED, "idempotents()", x -> x.idempotents());
        refused(unknown, "29 not all is known", UNSUPPORTED, "weight()", x -> x.weight());
        refused(unknown, "31 not all is known", UNSUPPORTED, "units()", x -> x.units());
    }

    private void promises18To28() {
        List<Everything> two = List.of(steps, pairs);
        for (char by : new char[] {'D', 'Q', 'S', 'r', 'h', (char) 0, (char) 65535}) {
            refused(known, "18 no likeness", ILLEGAL, "classes(" + (int) by + ")", x -> x.classes(by));
            refused(two, "19 no likeness", ILLEGAL, "classOf(0, " + (int) by + ")", x -> x.classOf(0, by));
            refused(two, "20 no order", ILLEGAL, "isBelow(0, 1, " + (int) by + ")", x -> x.isBelow(0, 1, by));
        }
        refused(known, "20 H is no order", ILLEGAL, "isBelow(0, 0, H)", x -> x.isBelow(0, 0, 'H'));
        for (int none : outside(4)) {
            refused(two, "19 no element", OUTSIDE, "classOf(" + none + ", R)", x -> x.classOf(none, 'R'));
            refused(two, "19 neither", OUTSIDE, "classOf(" + none + ", D)", x -> x.classOf(none, 'D'));
            refused(two, "20 no element", OUTSIDE, "isBelow(" + none + ", 0, R)", x -> x.isBelow(none, 0, 'R'));
            refused(two, "20 no other one", OUTSIDE, "isBelow(0, " + none + ", J)", x -> x.isBelow(0, none, 'J'));
            refused(two, "20 neither", OUTSIDE, "isBelow(" + none + ", 0, H)", x -> x.isBelow(none, 0, 'H'));
            refused(two, "20 nor these", OUTSIDE, "isBelow(0, " + none + ", H)", x -> x.isBelow(0, none, 'H'));
            refused(two, "21 no element", OUTSIDE, "inverses(" + none + ")", x -> x.inverses(none));
            refused(two, "22 no element", OUTSIDE, "inverse(" + none + ", 0)", x -> x.inverse(none, 0));
            refused(two, "22 neither", OUTSIDE, "inverse(" + none + ", -1)", x -> x.inverse(none, -1));
            refused(two, "25 no element", OUTSIDE, "sides(" + none + ", true)", x -> x.sides(none, true));
            refused(two, "25 no element", OUTSIDE, "sides(" + none + ", false)", x -> x.sides(none, false));
            refused(two, "26 no element", OUTSIDE, "group(" + none + ")", x -> x.group(none));
            refused(two, "27 no element", OUTSIDE, "meets(" + none + ", 0, 0)", x -> x.meets(none, 0, 0));
            refused(two, "27 none at all", OUTSIDE, "meets(" + none + ", -1, 9)", x -> x.meets(none, -1, 9));
            refused(two, "28 no element", OUTSIDE, "height(" + none + ")", x -> x.height(none));
        }
    }

    private void promises22To31() {
        for (int none : outside(3)) {
            refused(List.of(bare), "22 there are three", NONE, "inverse(2, " + none + ")", x -> x.inverse(2, none));
            refused(List.of(bare), "24 there are three", NONE, "idempotent(" + none + ")", x -> x.idempotent(none));
            refused(List.of(bare), "27 three columns", NONE, "meets(0, " + none + ", 0)", x -> x.meets(0, none, 0));
        }
        for (int none : outside(1)) {
            refused(List.of(steps, orders), "24 there is one", NONE, "idempotent(" + none + ")",
                    x -> x.idempotent(none));
            refused(List.of(bare), "27 one row", NONE, "meets(0, 0, " + none + ")", x -> x.meets(0, 0, none));
            refused(List.of(bare), "27 neither", NONE, "meets(0, 3, " + none + ")", x -> x.meets(0, 3, none));
        }
        for (int none : new int[] {-1, 0, 1, LEAST, GREATEST}) {
            refused(List.of(steps), "22 there is none", NONE, "inverse(0, " + none + ")", x -> x.inverse(0, none));
        }
        for (char what : new char[] {'h', 'j', 'l', 'y', 'I', 'Z', (char) 0, (char) 65535}) {
            refused(known, "30 no such thing", ILLEGAL, "special(" + (int) what + ")", x -> x.special(what));
        }
        refused(List.of(steps, bare), "30 no identity", NONE, "special(i)", x -> x.special('i'));
        refused(List.of(orders, bare), "30 no zero", NONE, "special(z)", x -> x.special('z'));
        refused(List.of(steps, bare), "31 no identity", NONE, "units()", x -> x.units());
    }

    // ---- Promises 32 to 36 ----

    private void promises32To36() {
        for (int none : new int[] {0, -1, GREATEST}) {
            refused(unknown, "32 not all is known", UNSUPPORTED, "merged(" + none + ")", x -> x.merged(none, none));
            refused(unknown, "33 not all is known", UNSUPPORTED, "areMerged(" + none + ")",
                    x -> x.areMerged(none, none, none, none));
        }
        refused(unknown, "34 not all is known", UNSUPPORTED, "congruences()", x -> x.congruences());
        refused(unknown, "35 not all is known", UNSUPPORTED, "parts()", x -> x.parts());
        refused(unknown, "36 not all is known", UNSUPPORTED, "endomorphisms()", x -> x.endomorphisms());
        List<Everything> two = List.of(steps, pairs);
        for (int none : outside(4)) {
            refused(two, "32 no element", OUTSIDE, "merged(" + none + ", 0)", x -> x.merged(none, 0));
            refused(two, "32 no other one", OUTSIDE, "merged(3, " + none + ")", x -> x.merged(3, none));
            refused(two, "33 none first", OUTSIDE, "areMerged(" + none + ", 0, 1, 2)",
                    x -> x.areMerged(none, 0, 1, 2));
            refused(two, "33 none second", OUTSIDE, "areMerged(0, " + none + ", 1, 2)",
                    x -> x.areMerged(0, none, 1, 2));
            refused(two, "33 none third", OUTSIDE, "areMerged(0, 1, " + none + ", 2)",
                    x -> x.areMerged(0, 1, none, 2));
            refused(two, "33 none fourth", OUTSIDE, "areMerged(0, 1, 2, " + none + ")",
                    x -> x.areMerged(0, 1, 2, none));
        }
    }

    private void promises34To36Bounds() {
        Everything eight = new Everything(Shop.maps("eight elements", 4, Check.g(1, 2, 3, 0), Check.g(2, 1, 0, 3))
                .withRow(1).withText("x=x^"));
        eight.refused("34 more than seven", UNSUPPORTED, "congruences()", x -> x.congruences());
        Everything eleven = new Everything(Shop.maps("eleven elements", 4, Check.g(0, -1, 2, 2), Check.g(3, 2, 0, 0),
                Check.g(0, 1, 2, 3), Check.g(-1, -1, -1, -1)).withRow(3, 2, 1, 0).withText("a=b"));
        eleven.refused("34 more than seven", UNSUPPORTED, "congruences()", x -> x.congruences());
        eleven.refused("35 more than ten", UNSUPPORTED, "parts()", x -> x.parts());
        eleven.refused("36 four generators", UNSUPPORTED, "endomorphisms()", x -> x.endomorphisms());
        four.refused("36 four generators", UNSUPPORTED, "endomorphisms()", x -> x.endomorphisms());
        Everything more = new Everything(Shop.maps("thirty-one elements", 5, Check.g(1, 4, 4, 0, 0),
                Check.g(4, 4, 4, 4, 0), Check.g(0, 1, 2, 3, 4)).withText("x=y"));
        more.refused("36 more than thirty", UNSUPPORTED, "endomorphisms()", x -> x.endomorphisms());
        Everything both = new Everything(Shop.maps("too much of both", 5, Check.g(1, 4, 4, 0, 0),
                Check.g(4, 4, 4, 4, 0), Check.g(0, 1, 2, 3, 4), Check.g(-1, -1, -1, -1, -1)).withText("x=y"));
        both.refused("36 both", UNSUPPORTED, "endomorphisms()", x -> x.endomorphisms());
    }

    // ---- Promises 37 to 41 ----

    private void promises37To41() {
        List<Everything> all = List.of(steps, pairs, untouched, noMaps, tooManyMaps, full);
        for (char sign : new char[] {'w', '{', 'e', '`', 'X', 'A', '<', '>', ')' + 1, '\'', ' ', '1', (char) 0,
            (char) 65535}) {
            refused(all, "37 no such sign, a full text too", ILLEGAL, "sign(" + (int) sign + ")", x -> x.sign(sign));
        }
        for (char sign : "xyz=^()abcd".toCharArray()) {
            refused(List.of(full), "37 a full text", STATE, "sign(" + sign + ")", x -> x.sign(sign));
        }
        refused(unknown, "38 not all is known, whatever the text is", UNSUPPORTED, "fails()", x -> x.fails());
        for (char kind : new char[] {'a', 'g', 'v', 'd', '?'}) {
            refused(unknown, "39 not all is known", UNSUPPORTED, "isA(" + kind + ")", x -> x.isA(kind));
        }
        for (char kind : new char[] {'d', 'e', 'f', 'h', 'k', 'p', 'q', 't', 'u', 'w', 'z', 'A', '`', (char) 0,
            (char) 65535}) {
            refused(known, "39 no such kind", ILLEGAL, "isA(" + (int) kind + ")", x -> x.isA(kind));
        }
        for (char kind : new char[] {'a', 'd', 'k', 'm', 'o', 'q', 'B', (char) 0, (char) 65535}) {
            refused(List.of(steps, orders, bare, untouched, tooManyMaps), "40 no such kind, whatever the text is",
                    ILLEGAL, "areSame(" + (int) kind + ")", x -> x.areSame(kind));
        }
        refused(unknown, "41 not all is known", UNSUPPORTED, "irreducibles()", x -> x.irreducibles());
    }

    private void promise38Texts() {
        String[] none = {"", "x", "=", "x=", "=x", "x==x", "x=x=x", "()=x", "x=()", "(x=x", "x)=x", "x=(x", "x=x)",
            "^x=x", "x^^=x", "x=^", "(^x)=x", "(x=x)", "x=a", "ab=ba", ")x(=x", "x^=x^^"};
        for (String text : none) {
            Shop shop = Shop.maps("two maps and " + text, 2, Check.g(1, 0)).withText(text);
            new Everything(shop).refused("38 no equation", UNSUPPORTED, "fails()", x -> x.fails());
        }
    }

    /** 34 to the third is 39304, 35 to the third is 42875. */
    private void promise38Ways() {
        Shop shop = Shop.maps("thirty-five elements", 4, Check.g(2, 2, 3, 3), Check.g(-1, 2, 3, 1),
                Check.g(0, 1, 2, 3), Check.g(-1, -1, -1, -1)).withText("xyz=x");
        new Everything(shop).refused("38 too many ways", UNSUPPORTED, "fails()", x -> x.fails());
    }

    private void promise40Texts() {
        String[] none = {"", "a", "=", "a=", "=a", "a==a", "a=a=a", "x=x", "a=x", "y=a", "a^=a", "(a)=a", "a=b="};
        for (String text : none) {
            Everything shop = new Everything(Shop.maps("one map and " + text, 1, Check.g(0)).withText(text));
            for (char kind : "clpb".toCharArray()) {
                shop.refused("40 no such text", UNSUPPORTED, "areSame(" + kind + ")", x -> x.areSame(kind));
            }
        }
    }

    // ---- Promises 42 to 49 ----

    private void promises42And43() {
        List<Everything> neither = List.of(untouched, noMaps, noRelations, pairs, tooManyRelations);
        for (int points : new int[] {1, 0, -1, 64, GREATEST}) {
            refused(neither, "42 no generator, or relations", UNSUPPORTED, "together(" + points + ")",
                    x -> x.together(points));
            refused(neither, "43 no generator, or relations", UNSUPPORTED, "togetherAt(" + points + ", -1)",
                    x -> x.togetherAt(points, -1));
        }
        for (int none : new int[] {0, -1, 8, LEAST, GREATEST}) {
            refused(List.of(steps, orders, bare), "42 no such points", ILLEGAL, "together(" + none + ")",
                    x -> x.together(none));
            refused(List.of(steps, orders, bare), "43 no such points", ILLEGAL, "togetherAt(" + none + ", 0)",
                    x -> x.togetherAt(none, 0));
            refused(List.of(steps, orders, bare), "43 neither these nor an index", ILLEGAL,
                    "togetherAt(" + none + ", -1)", x -> x.togetherAt(none, -1));
        }
        for (int points : new int[] {3, 5, 6, 7}) {
            refused(List.of(steps, orders), "42 there is none", NONE, "together(" + points + ")",
                    x -> x.together(points));
            for (int index : new int[] {0, 1, -1, LEAST, GREATEST}) {
                refused(List.of(steps, orders), "43 there is none", NONE, "togetherAt(" + points + ", " + index + ")",
                        x -> x.togetherAt(points, index));
            }
        }
        for (int index : outside(1)) {
            refused(List.of(bare), "43 its length is 1", NONE, "togetherAt(7, " + index + ")",
                    x -> x.togetherAt(7, index));
        }
        for (int index : outside(0)) {
            refused(List.of(bare, steps, tooManyMaps), "43 its length is 0", NONE, "togetherAt(4, " + index + ")",
                    x -> x.togetherAt(4, index));
        }
    }

    private void promises44To45() {
        List<Everything> relations = List.of(pairs, noRelations, tooManyRelations);
        for (int none : new int[] {0, 1, -1, GREATEST}) {
            refused(relations, "44 relations", UNSUPPORTED, "automaton(" + none + ")", x -> x.automaton(none, none));
        }
        for (int none : outside(3)) {
            refused(List.of(steps, bare, noMaps), "44 no such point", ILLEGAL, "automaton(" + none + ", 1)",
                    x -> x.automaton(none, 1));
            refused(List.of(steps, bare, noMaps), "44 neither", ILLEGAL, "automaton(" + none + ", 8)",
                    x -> x.automaton(none, 8));
        }
        for (int none : outside(8)) {
            refused(List.of(steps, bare, noMaps), "44 no such points", ILLEGAL, "automaton(1, " + none + ")",
                    x -> x.automaton(1, none));
        }
        refused(List.of(untouched), "44 a second point of one", ILLEGAL, "automaton(1, 0)", x -> x.automaton(1, 0));
        refused(List.of(untouched), "44 a second point of one", ILLEGAL, "automaton(0, 2)", x -> x.automaton(0, 2));
        refused(relations, "45 relations, whatever the row is", UNSUPPORTED, "accepts()", x -> x.accepts());
        refused(List.of(steps, noMaps), "45 no generators", ILLEGAL, "accepts()", x -> x.accepts());
        Shop[] none = {Shop.maps("-1 behind a word", 1, Check.g(0)).withAutomaton(0, 1).withRow(0, 0, -1),
            Shop.maps("a second generator of one", 2, Check.g(1, 0)).withAutomaton(1, 2).withRow(1, 0),
            Shop.maps("a fifth generator of four", 1, Check.g(0), Check.g(0), Check.g(0), Check.g(0)).withRow(4),
            Shop.maps("9 behind none", 2, Check.g(-1, -1)).withAutomaton(0, 3).withRow(0, 9),
            Shop.maps("one without generators", 1).withRow(0)};
        for (Shop shop : none) {
            new Everything(shop).refused("45 no generator", ILLEGAL, "accepts()", x -> x.accepts());
        }
    }

    private void promises46To49() {
        List<Everything> neither = List.of(untouched, noMaps, noRelations, tooManyMaps, tooManyRelations, pairs);
        refused(neither, "46 not all is known, or relations", UNSUPPORTED, "syntactic()", x -> x.syntactic());
        for (char kind : new char[] {'a', 'b', 'c', 'n', 'd', '?'}) {
            refused(neither, "47 not all is known, or relations", UNSUPPORTED, "isLanguage(" + kind + ")",
                    x -> x.isLanguage(kind));
        }
        refused(neither, "48 not all is known, or relations", UNSUPPORTED, "imageSets()", x -> x.imageSets());
        refused(neither, "49 not all is known, or relations", UNSUPPORTED, "levels()", x -> x.levels());
        for (char kind : new char[] {'d', 'g', 'i', 'j', 'l', 'm', 'o', 'r', 's', 'v', 'A', '`', (char) 0,
            (char) 65535}) {
            refused(List.of(steps, orders, bare), "47 no such kind", ILLEGAL, "isLanguage(" + (int) kind + ")",
                    x -> x.isLanguage(kind));
        }
    }

    // ---- Promises 50 to 53 ----

    private void promises50To53() {
        for (int none : new int[] {0, 4, -1, LEAST, GREATEST}) {
            refused(List.of(steps, pairs, untouched, tooManyMaps), "50 out of range", ILLEGAL,
                    "tables(" + none + ", false)", x -> x.tables(none, false));
            refused(List.of(steps, pairs, untouched, tooManyMaps), "50 out of range", ILLEGAL,
                    "tables(" + none + ", true)", x -> x.tables(none, true));
        }
        refused(unknown, "51 not all is known", UNSUPPORTED, "checksum()", x -> x.checksum());
        refused(unknown, "52 not all is known", UNSUPPORTED, "regularShare()", x -> x.regularShare());
        refused(unknown, "53 not all is known", UNSUPPORTED, "meanLength()", x -> x.meanLength());
    }
}
