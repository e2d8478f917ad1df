import java.util.ArrayList;
import java.util.List;
import java.util.function.Function;

/**
 * Each empty case, with each method: an object that is new, one without generators, an empty row, an empty text, no end
 * points, a box without a group, a semigroup without identity or zero.
 */
public final class EmptyTest {
    private static final String ILLEGAL = "throws.IllegalArgumentException";
    private static final String UNSUPPORTED = "throws.UnsupportedOperationException";
    private static final String NONE = "throws.NoSuchElementException";

    public static void main(String[] args) {
        promises6To53WithoutGenerators(Shop.untouched());
        promises6To53WithoutGenerators(Shop.maps("maps on six points", 6));
        promises6To53WithoutGenerators(Shop.relations("relations on three points", 3));
        promises1To54OfANewObject();
        promises2To54OfMapsWithoutGenerators();
        promises2To54OfRelationsWithoutGenerators();
        promises4To45OfAnEmptyRow();
        promises4To40OfAnEmptyText();
        promises44To47WithoutEnds();
        promises25To52OfABoxWithoutAGroup();
        promises30To39WithoutIdentity();
        promises30To39WithoutZero();
        Check.end();
    }

    private static void due(String call, Shop shop, Function<Eggboxery, Object> asked, Object due) {
        Check.due(call + " of " + shop.name, Check.answerOf(() -> asked.apply(shop.make())), due);
    }

    /** All that asks for elements, with what would be right if there were some. */
    private static void promises6To53WithoutGenerators(Shop shop) {
        due("6", shop, x -> x.size(), UNSUPPORTED);
        due("7", shop, x -> x.image(0, 0), UNSUPPORTED);
        due("8", shop, x -> x.length(0), UNSUPPORTED);
        due("9", shop, x -> x.letter(0, 0), UNSUPPORTED);
        due("10", shop, x -> x.product(0, 0), UNSUPPORTED);
        due("11", shop, x -> x.power(0, 1), UNSUPPORTED);
        due("12", shop, x -> x.omega(0), UNSUPPORTED);
        due("13", shop, x -> x.index(0), UNSUPPORTED);
        due("14", shop, x -> x.period(0), UNSUPPORTED);
        due("15", shop, x -> x.find(), UNSUPPORTED);
        due("16", shop, x -> x.word(), UNSUPPORTED);
        due("17", shop, x -> x.rules(), UNSUPPORTED);
        due("18", shop, x -> x.classes('J'), UNSUPPORTED);
        due("19", shop, x -> x.classOf(0, 'J'), UNSUPPORTED);
        due("20", shop, x -> x.isBelow(0, 0, 'J'), UNSUPPORTED);
        due("21", shop, x -> x.inverses(0), UNSUPPORTED);
        due("22", shop, x -> x.inverse(0, 0), UNSUPPORTED);
        due("23", shop, x -> x.idempotents(), UNSUPPORTED);
        due("24", shop, x -> x.idempotent(0), UNSUPPORTED);
        due("25", shop, x -> x.sides(0, true), UNSUPPORTED);
        due("26", shop, x -> x.group(0), UNSUPPORTED);
        due("27", shop, x -> x.meets(0, 0, 0), UNSUPPORTED);
        due("28", shop, x -> x.height(0), UNSUPPORTED);
        due("29", shop, x -> x.weight(), UNSUPPORTED);
        due("30", shop, x -> x.special('k'), UNSUPPORTED);
        due("31", shop, x -> x.units(), UNSUPPORTED);
        due("32", shop, x -> x.merged(0, 0), UNSUPPORTED);
        due("33", shop, x -> x.areMerged(0, 0, 0, 0), UNSUPPORTED);
        due("34", shop, x -> x.congruences(), UNSUPPORTED);
        due("35", shop, x -> x.parts(), UNSUPPORTED);
        due("36", shop, x -> x.endomorphisms(), UNSUPPORTED);
        due("38", shop, x -> x.fails(), UNSUPPORTED);
        due("39", shop, x -> x.isA('a'), UNSUPPORTED);
        due("41", shop, x -> x.irreducibles(), UNSUPPORTED);
        due("42", shop, x -> x.together(1), UNSUPPORTED);
        due("43", shop, x -> x.togetherAt(1, 0), UNSUPPORTED);
        due("46", shop, x -> x.syntactic(), UNSUPPORTED);
        due("47", shop, x -> x.isLanguage('a'), UNSUPPORTED);
        due("48", shop, x -> x.imageSets(), UNSUPPORTED);
        due("49", shop, x -> x.levels(), UNSUPPORTED);
        due("51", shop, x -> x.checksum(), UNSUPPORTED);
        due("52", shop, x -> x.regularShare(), UNSUPPORTED);
        due("53", shop, x -> x.meanLength(), UNSUPPORTED);
    }

    /** What does not ask for elements. */
    private static void promises1To54OfANewObject() {
        Shop shop = Shop.untouched();
        due("2", shop, x -> x.begin('t', 1), 0);
        due("3", shop, x -> x.type(0), 1);
        due("4", shop, x -> x.wipe(), 0);
        due("5", shop, x -> x.generator(), ILLEGAL);
        due("37", shop, x -> x.sign('x'), 1);
        due("40 no such kind", shop, x -> x.areSame('x'), ILLEGAL);
        due("40 an empty text", shop, x -> x.areSame('c'), UNSUPPORTED);
        due("44 0 to begin, none to end", shop, x -> x.automaton(0, 1), 0);
        due("44 no second point", shop, x -> x.automaton(1, 1), ILLEGAL);
        due("45 no ends", shop, x -> x.accepts(), false);
        due("50", shop, x -> x.tables(1, true), 1);
        due("54", shop, x -> x.isSound(), true);
    }

    private static void promises2To54OfMapsWithoutGenerators() {
        Shop shop = Shop.maps("six points", 6).withAutomaton(5, 32).withText("a=aa");
        due("2", shop, x -> x.begin('r', 1), 0);
        due("4", shop, x -> x.wipe(), 4);
        due("5", shop, x -> x.generator(), ILLEGAL);
        due("40", shop, x -> x.areSame('b'), true);
        due("44", shop, x -> x.automaton(0, 0), 532);
        due("45 it begins where it ends", shop, x -> x.accepts(), true);
        due("50", shop, x -> x.tables(3, false), 24);
        due("54", shop, x -> x.isSound(), true);
        Shop typed = Shop.maps("six points and a row", 6).withAutomaton(5, 32).withRow(0);
        due("45 there is no generator", typed, x -> x.accepts(), ILLEGAL);
    }

    private static void promises2To54OfRelationsWithoutGenerators() {
        Shop shop = Shop.relations("three points of relations", 3);
        due("2", shop, x -> x.begin('t', 6), 0);
        due("5", shop, x -> x.generator(), ILLEGAL);
        due("44", shop, x -> x.automaton(0, 0), UNSUPPORTED);
        due("45", shop, x -> x.accepts(), UNSUPPORTED);
        due("50", shop, x -> x.tables(2, true), 4);
        due("54", shop, x -> x.isSound(), true);
    }

    // ---- An empty row, an empty text ----

    private static void promises4To45OfAnEmptyRow() {
        Shop maps = Shop.maps("an empty row", 2, Check.g(1, 0)).withAutomaton(1, 2);
        Shop relations = Shop.relations("an empty row of relations", 1, Check.g(1));
        for (Shop shop : new Shop[] {maps, relations}) {
            due("3", shop, x -> x.type(-1), 1);
            due("4", shop, x -> x.wipe(), 0);
            due("5", shop, x -> x.generator(), ILLEGAL);
            due("15", shop, x -> x.find(), ILLEGAL);
            due("16", shop, x -> x.word(), ILLEGAL);
        }
        due("45 the empty word is one", maps, x -> x.accepts(), true);
        due("45 relations", relations, x -> x.accepts(), UNSUPPORTED);
    }

    private static void promises4To40OfAnEmptyText() {
        Shop shop = Shop.maps("an empty text", 2, Check.g(1, 0));
        due("4", shop, x -> x.wipe(), 0);
        due("37", shop, x -> x.sign('d'), 1);
        due("38", shop, x -> x.fails(), UNSUPPORTED);
        for (char kind : "clpb".toCharArray()) {
            due("40", shop, x -> x.areSame(kind), UNSUPPORTED);
        }
        due("40 no such kind", shop, x -> x.areSame('?'), ILLEGAL);
    }

    // ---- No end points ----

    private static void promises44To47WithoutEnds() {
        List<Shop> shops = new ArrayList<>();
        for (int begin = 0; begin < 3; begin++) {
            shops.add(Shop.maps("all maps of three", 3, Check.g(1, 2, 0), Check.g(1, 0, 2), Check.g(0, 0, 2))
                    .withAutomaton(begin, 0).withRow(0, 1, 2));
            shops.add(Shop.maps("steps", 3, Check.g(1, -1, -1), Check.g(-1, 2, -1)).withAutomaton(begin, 0));
            shops.add(Shop.maps("orders", 3, Check.g(1, 2, 0), Check.g(1, 0, 2)).withAutomaton(begin, 0).withRow(1));
        }
        for (Shop shop : shops) {
            due("44", shop, x -> x.automaton(0, 0) % 100, 0);
            due("45", shop, x -> x.accepts(), false);
            due("46", shop, x -> x.syntactic(), 1);
            for (char kind : "abcn".toCharArray()) {
                due("47 " + kind, shop, x -> x.isLanguage(kind), true);
            }
        }
    }

    // ---- A box without a group ----

    private static void promises25To52OfABoxWithoutAGroup() {
        // ab leads 0 to 2; a, b and ab are boxes of one element, whose squares lead to none.
        Shop shop = Shop.maps("steps", 3, Check.g(1, -1, -1), Check.g(-1, 2, -1));
        for (int element : new int[] {0, 1, 3}) {
            due("19", shop, x -> x.classOf(element, 'J'), element);
            due("21", shop, x -> x.inverses(element), 0);
            due("22", shop, x -> x.inverse(element, 0), NONE);
            due("25", shop, x -> x.sides(element, true) * 10 + x.sides(element, false), 11);
            due("26", shop, x -> x.group(element), 0);
            due("27", shop, x -> x.meets(element, 0, 0), false);
        }
        due("26 of the one with a group", shop, x -> x.group(2), 1);
        due("27 of the one with a group", shop, x -> x.meets(2, 0, 0), true);
        due("29 no group of more than one", shop, x -> x.weight(), 0);
        due("41 one group alone is counted", shop, x -> x.irreducibles(), 1);
        due("52 one of four", shop, x -> x.regularShare(), 0.25f);
        // Two rows, or two columns, without a group: 0 and 1 lead to 2, from which nothing leads on, but to none.
        Shop rows = Shop.maps("a box of two", 4, Check.g(1, 0, -1, -1), Check.g(2, -1, -1, -1));
        due("25 a box of two rows", rows, x -> x.sides(1, true) * 10 + x.sides(1, false), 21);
        due("26 a box of two rows", rows, x -> x.group(1), 0);
        due("27 the first row", rows, x -> x.meets(1, 0, 0), false);
        due("27 the second row", rows, x -> x.meets(1, 0, 1), false);
        due("27 a third row", rows, x -> x.meets(1, 0, 2), NONE);
        due("41 a group of two, and one of one", rows, x -> x.irreducibles(), 3);
    }

    // ---- Without an identity, without a zero ----

    private static void promises30To39WithoutIdentity() {
        Shop[] shops = {Shop.maps("constants", 2, Check.g(0, 0), Check.g(1, 1)),
            Shop.maps("a chain", 3, Check.g(1, 2, -1)),
            Shop.maps("a tail", 4, Check.g(1, 2, 3, 2)),
            Shop.relations("constants turned about", 2, Check.g(3, 0), Check.g(0, 3))};
        for (Shop shop : shops) {
            due("30 i", shop, x -> x.special('i'), NONE);
            due("31", shop, x -> x.units(), NONE);
            due("39 m", shop, x -> x.isA('m'), false);
            due("39 g", shop, x -> x.isA('g'), false);
            due("30 k", shop, x -> x.special('k') >= 0, true);
        }
    }

    private static void promises30To39WithoutZero() {
        Shop[] shops = {Shop.maps("constants", 2, Check.g(0, 0), Check.g(1, 1)),
            Shop.maps("a group", 3, Check.g(1, 2, 0)),
            Shop.maps("a tail", 4, Check.g(1, 2, 3, 2)),
            Shop.relations("constants turned about", 2, Check.g(3, 0), Check.g(0, 3))};
        for (Shop shop : shops) {
            due("30 z", shop, x -> x.special('z'), NONE);
            due("39 n", shop, x -> x.isA('n'), false);
            due("30 k", shop, x -> x.special('k') >= 0, true);
        }
        Shop zero = Shop.maps("with a zero", 2, Check.g(1, 0), Check.g(-1, -1));
        due("30 with a zero", zero, x -> x.special('z'), 1);
        due("30 the least class is it", zero, x -> x.special('k'), 1);
    }
}
