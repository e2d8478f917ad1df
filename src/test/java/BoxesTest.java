/** Promises 18 to 31. */
public final class BoxesTest {
    private static final String ILLEGAL = "IllegalArgumentException";
    private static final String UNSUPPORTED = "UnsupportedOperationException";
    private static final String OUTSIDE = "IndexOutOfBoundsException";
    private static final String NONE = "NoSuchElementException";
    private static final int[] NO_ELEMENTS = {-1, 27, 200, Integer.MIN_VALUE, Integer.MAX_VALUE};

    public static void main(String[] args) {
        classes();
        classOf();
        isBelow();
        inverses();
        idempotents();
        sidesAndGroup();
        meets();
        height();
        weight();
        special();
        units();
        unknown(new Eggboxery());
        unknown(Check.tooMany());
        Check.end();
    }

    private static void unknown(Eggboxery x) {
        Check.refused("18 classes", UNSUPPORTED, () -> x.classes('?'));
        Check.refused("19 classOf", UNSUPPORTED, () -> x.classOf(-1, '?'));
        Check.refused("20 isBelow", UNSUPPORTED, () -> x.isBelow(-1, -1, '?'));
        Check.refused("21 inverses", UNSUPPORTED, () -> x.inverses(-1));
        Check.refused("22 inverse", UNSUPPORTED, () -> x.inverse(-1, -1));
        Check.refused("23 idempotents", UNSUPPORTED, x::idempotents);
        Check.refused("24 idempotent", UNSUPPORTED, () -> x.idempotent(-1));
        Check.refused("25 sides", UNSUPPORTED, () -> x.sides(-1, true));
        Check.refused("26 group", UNSUPPORTED, () -> x.group(-1));
        Check.refused("27 meets", UNSUPPORTED, () -> x.meets(-1, -1, -1));
        Check.refused("28 height", UNSUPPORTED, () -> x.height(-1));
        Check.refused("29 weight", UNSUPPORTED, x::weight);
        Check.refused("30 special", UNSUPPORTED, () -> x.special('?'));
        Check.refused("31 units", UNSUPPORTED, x::units);
    }

    private static void classes() {
        Eggboxery x = Check.allMapsOfThree();
        // By R alike are maps with the same points sent together, by L those with the same image.
        Check.due("18 R", x.classes('R'), 5);
        Check.due("18 L", x.classes('L'), 7);
        Check.due("18 H", x.classes('H'), 13);
        Check.due("18 J", x.classes('J'), 3);
        for (char by : new char[] {'r', 'D', ' ', (char) 0, (char) 65535}) {
            Check.refused("18 no likeness", ILLEGAL, () -> x.classes(by));
        }
        Eggboxery steps = Check.steps();
        Check.due("18 all apart", steps.classes('R') + steps.classes('L') + steps.classes('H') + steps.classes('J'),
                16);
        Eggboxery orders = Check.ordersOfFour();
        Check.due("18 a group", orders.classes('R') + orders.classes('L') + orders.classes('H') + orders.classes('J'),
                4);
        Eggboxery constants = Check.constants();
        Check.due("18 constants by R", constants.classes('R'), 1);
        Check.due("18 constants by L", constants.classes('L'), 3);
        Check.add(constants, 1, 2, 0);
        Check.due("18 a generator more", constants.classes('J'), 2);
    }

    private static void classOf() {
        Eggboxery x = Check.constants();
        Check.due("19 R", x.classOf(2, 'R'), 0);
        Check.due("19 L", x.classOf(2, 'L'), 2);
        Check.due("19 H", x.classOf(1, 'H'), 1);
        Check.due("19 J", x.classOf(2, 'J'), 0);
        Eggboxery y = Check.allMapsOfThree();
        Check.due("19 the swap is in the group", y.classOf(1, 'H'), 0);
        Check.due("19 the lowest is its own", y.classOf(2, 'J'), 2);
        for (int none : NO_ELEMENTS) {
            Check.refused("19 no element", OUTSIDE, () -> y.classOf(none, '?'));
        }
        for (char by : new char[] {'j', 'D', ' ', (char) 0}) {
            Check.refused("19 no likeness", ILLEGAL, () -> y.classOf(0, by));
        }
    }

    private static void isBelow() {
        Eggboxery x = Check.steps();
        // a 0, b 1, the empty one 2, ab 3
        Check.due("20 ab under a by R", x.isBelow(3, 0, 'R'), true);
        Check.due("20 ab under b by R", x.isBelow(3, 1, 'R'), false);
        Check.due("20 ab under b by L", x.isBelow(3, 1, 'L'), true);
        Check.due("20 ab under a by L", x.isBelow(3, 0, 'L'), false);
        Check.due("20 ab under a by J", x.isBelow(3, 0, 'J'), true);
        Check.due("20 ab under b by J", x.isBelow(3, 1, 'J'), true);
        Check.due("20 a under ab by J", x.isBelow(0, 3, 'J'), false);
        Check.due("20 a under b by J", x.isBelow(0, 1, 'J'), false);
        Check.due("20 the same", x.isBelow(0, 0, 'R') && x.isBelow(0, 0, 'L') && x.isBelow(0, 0, 'J'), true);
        Check.due("20 the empty one under ab", x.isBelow(2, 3, 'J'), true);
        Check.refused("20 H is no order", ILLEGAL, () -> x.isBelow(0, 0, 'H'));
        Check.refused("20 no order", ILLEGAL, () -> x.isBelow(0, 0, 'l'));
        for (int none : NO_ELEMENTS) {
            Check.refused("20 no element", OUTSIDE, () -> x.isBelow(none, 0, 'H'));
            Check.refused("20 no other one", OUTSIDE, () -> x.isBelow(0, none, 'H'));
        }
        bothSides();
    }

    /** A product with something on both sides: abc is below b by J, but neither by R nor by L. */
    private static void bothSides() {
        Eggboxery x = Check.maps(4, Check.g(1, -1, -1, -1), Check.g(-1, 2, -1, -1), Check.g(-1, -1, 3, -1));
        Check.row(x, 0, 1, 2);
        int abc = x.word();
        Check.due("20 abc under b by J", x.isBelow(abc, 1, 'J'), true);
        Check.due("20 abc under b by R", x.isBelow(abc, 1, 'R'), false);
        Check.due("20 abc under b by L", x.isBelow(abc, 1, 'L'), false);
    }

    private static void inverses() {
        Eggboxery x = Check.constants();
        Check.due("21 each is one of each", x.inverses(0), 3);
        for (int index = 0; index < 3; index++) {
            Check.due("22 by rising elements", x.inverse(1, index), index);
        }
        Check.refused("22 a fourth one", NONE, () -> x.inverse(1, 3));
        Eggboxery y = Check.steps();
        Check.due("21 none", y.inverses(0), 0);
        Check.refused("22 none", NONE, () -> y.inverse(0, 0));
        Check.due("21 of the empty one", y.inverses(2), 1);
        Check.due("22 of the empty one", y.inverse(2, 0), 2);
        for (int none : NO_ELEMENTS) {
            Check.refused("21 no element", OUTSIDE, () -> y.inverses(none));
            Check.refused("22 no element", OUTSIDE, () -> y.inverse(none, -1));
        }
        for (int none : new int[] {-1, 1, Integer.MIN_VALUE, Integer.MAX_VALUE}) {
            Check.refused("22 no index", NONE, () -> y.inverse(2, none));
        }
        Eggboxery z = Check.maps(3, Check.g(1, 2, 0));
        Check.due("21 of a turn", z.inverses(0), 1);
        Check.due("22 of a turn", z.inverse(0, 0), 1);
        Check.due("21 all maps of three points", Check.allMapsOfThree().inverses(2), 4);
        // Here x y x is x for an element y that is no inverse: the zero of y and the empty one.
        Eggboxery one = Check.maps(2, Check.g(0, -1), Check.g(0, 1));
        Check.due("21 just itself", one.inverses(0), 1);
        Check.due("22 just itself", one.inverse(0, 0), 0);
    }

    private static void idempotents() {
        Eggboxery x = Check.allMapsOfThree();
        Check.due("23 all maps of three points", x.idempotents(), 10);
        Check.due("24 the first one", x.idempotent(0), 2);
        int before = -1;
        for (int index = 0; index < 10; index++) {
            int found = x.idempotent(index);
            Check.due("24 rises", found > before, true);
            Check.due("24 is its own square", x.product(found, found), found);
            before = found;
        }
        for (int none : new int[] {-1, 10, Integer.MIN_VALUE, Integer.MAX_VALUE}) {
            Check.refused("24 no index", NONE, () -> x.idempotent(none));
        }
        Check.due("23 a group", Check.ordersOfFour().idempotents(), 1);
        Check.due("24 powers", Check.powers().idempotent(0), 2);
    }

    private static void sidesAndGroup() {
        Eggboxery x = Check.allMapsOfThree();
        Check.due("25 rows of the group", x.sides(0, true), 1);
        Check.due("25 columns of the group", x.sides(0, false), 1);
        Check.due("26 the group", x.group(0), 6);
        Check.due("25 rows of two points", x.sides(2, true), 3);
        Check.due("25 columns of two points", x.sides(2, false), 3);
        Check.due("26 two points", x.group(2), 2);
        Check.row(x, 0, 0, 0);
        int constant = x.find();
        Check.due("25 rows of constants", x.sides(constant, true), 1);
        Check.due("25 columns of constants", x.sides(constant, false), 3);
        Check.due("26 constants", x.group(constant), 1);
        Eggboxery y = Check.steps();
        Check.due("26 no group", y.group(0), 0);
        Check.due("26 the empty one", y.group(2), 1);
        Check.due("26 powers without a group", Check.powers().group(0), 0);
        Check.due("26 powers", Check.powers().group(1), 3);
        for (int none : NO_ELEMENTS) {
            Check.refused("25 no element", OUTSIDE, () -> x.sides(none, true));
            Check.refused("26 no element", OUTSIDE, () -> x.group(none));
        }
    }

    private static void meets() {
        Eggboxery x = Check.allMapsOfThree();
        int many = 0;
        for (int column = 0; column < 3; column++) {
            for (int row = 0; row < 3; row++) {
                many += x.meets(2, column, row) ? 1 : 0;
            }
        }
        Check.due("27 each of the three points sent together misses one image", many, 6);
        Check.due("27 the first ones", x.meets(2, 0, 0), true);
        Check.due("27 the second column", x.meets(2, 1, 0), false);
        Check.due("27 a group", x.meets(0, 0, 0), true);
        Check.due("27 without a group", Check.steps().meets(0, 0, 0), false);
        for (int none : new int[] {-1, 3, Integer.MIN_VALUE, Integer.MAX_VALUE}) {
            Check.refused("27 no column", NONE, () -> x.meets(2, none, 0));
            Check.refused("27 no row", NONE, () -> x.meets(2, 0, none));
        }
        for (int none : NO_ELEMENTS) {
            Check.refused("27 no element", OUTSIDE, () -> x.meets(none, -1, -1));
        }
        Eggboxery y = Check.constants();
        Check.due("27 the third column", y.meets(0, 2, 0), true);
        Check.refused("27 a second row", NONE, () -> y.meets(0, 0, 1));
    }

    private static void height() {
        Eggboxery x = Check.allMapsOfThree();
        Check.due("28 the group", x.height(0), 3);
        Check.due("28 two points", x.height(2), 2);
        Check.row(x, 1, 1, 1);
        Check.due("28 a constant", x.height(x.find()), 1);
        Eggboxery y = Check.steps();
        Check.due("28 a", y.height(0), 3);
        Check.due("28 b", y.height(1), 3);
        Check.due("28 the empty one", y.height(2), 1);
        Check.due("28 ab", y.height(3), 2);
        Check.due("28 powers", Check.powers().height(0), 2);
        for (int none : NO_ELEMENTS) {
            Check.refused("28 no element", OUTSIDE, () -> x.height(none));
        }
        // Not each class is on the longest row: b is right above the empty one.
        Eggboxery z = Check.maps(4, Check.g(1, 2, -1, -1), Check.g(-1, -1, -1, 0));
        Check.row(z, 1, 0, 0);
        Check.due("28 baa", z.height(z.word()), 2);
        Check.due("28 a", z.height(0), 4);
    }

    private static void weight() {
        Check.due("29 all maps of three points", Check.allMapsOfThree().weight(), 2);
        Check.due("29 constants", Check.constants().weight(), 0);
        Check.due("29 a group of one", Check.maps(1, Check.g(0)).weight(), 0);
        Check.due("29 orders", Check.ordersOfFour().weight(), 1);
        Check.due("29 powers", Check.powers().weight(), 1);
        // Two groups of two, neither below the other one, and the empty one below both: a row has one of them.
        Check.due("29 side by side", Check.maps(4, Check.g(1, 0, -1, -1), Check.g(-1, -1, 3, 2)).weight(), 1);
        // And a swap of all above them: a row has two of three.
        Check.due("29 one above two", Check.maps(4, Check.g(1, 0, 3, 2), Check.g(1, 0, -1, -1),
                Check.g(-1, -1, 3, 2)).weight(), 2);
    }

    private static void special() {
        Eggboxery x = Check.steps();
        Check.refused("30 no identity", NONE, () -> x.special('i'));
        Check.due("30 the zero", x.special('z'), 2);
        Check.due("30 the least class", x.special('k'), 2);
        Eggboxery y = Check.allMapsOfThree();
        Check.row(y, 0, 1, 2);
        Check.due("30 the identity", y.special('i'), y.find());
        Check.refused("30 no zero", NONE, () -> y.special('z'));
        Check.due("30 the lowest constant", y.image(y.special('k'), 0) == y.image(y.special('k'), 2), true);
        Check.due("30 is the lowest one", y.classOf(y.special('k'), 'J'), y.special('k'));
        Eggboxery z = Check.constants();
        Check.refused("30 all from one side alone", NONE, () -> z.special('i'));
        Check.refused("30 zeros from one side alone", NONE, () -> z.special('z'));
        Check.due("30 the least class of one", z.special('k'), 0);
        for (char what : new char[] {'I', 'e', ' ', (char) 0, (char) 65535}) {
            Check.refused("30 no such thing", ILLEGAL, () -> x.special(what));
        }
        Eggboxery one = Check.maps(1, Check.g(-1));
        Check.due("30 one alone is both", one.special('i') + one.special('z') + one.special('k'), 0);
        // No thing leaves all points, and yet the elements are left by one.
        Check.due("30 the identity of powers", Check.maps(3, Check.g(1, 0, 0)).special('i'), 1);
    }

    private static void units() {
        Check.due("31 all maps of three points", Check.allMapsOfThree().units(), 6);
        Check.due("31 a group", Check.ordersOfFour().units(), 24);
        Check.refused("31 no identity", NONE, () -> Check.steps().units());
        Check.refused("31 powers", NONE, () -> Check.powers().units());
        Check.due("31 one", Check.maps(1, Check.g(-1)).units(), 1);
        Check.due("31 relations", Check.relations(2, Check.g(2, 1), Check.g(1, 3), Check.g(1, 0), Check.g(3, 3))
                .units(), 2);
    }
}
