/** The bounds of promises 18 to 31, and of what 'Likeness' says: just inside, at them, just beyond. */
public final class EdgesOfBoxesTest {
    private static final String ILLEGAL = "IllegalArgumentException";
    private static final String OUTSIDE = "IndexOutOfBoundsException";
    private static final String NONE = "NoSuchElementException";

    public static void main(String[] args) {
        promise18Likenesses();
        promise18FewestAndMostClasses();
        promise19TheLowestIsItsOwn();
        promise19FirstAndLast();
        promise20Orders();
        promise20ItIsItself();
        promise21NoneOneAndAll();
        promise22Indices();
        promise23OneAndAll();
        promise24Indices();
        promise25OneAndMany();
        promise26WithoutAGroup();
        promise26OneAndMany();
        promise27RowsAndColumns();
        promise27WithoutAGroup();
        promise28LowestAndHighest();
        promise28SideBySide();
        promise29MoreThanOne();
        promise29InOneRow();
        promise29NotTheLongestRow();
        promise30WithoutIdentityOrZero();
        promise30OneAlone();
        promise30OneSideAlone();
        promise30LeastClass();
        promise31FewestAndMost();
        promise31WithoutIdentity();
        Check.end();
    }

    private static final int[] WILD = {Integer.MIN_VALUE, Integer.MAX_VALUE};

    private static Eggboxery chain() {
        return Check.maps(6, Check.g(1, 2, 3, 4, 5, -1));
    }

    private static Eggboxery one() {
        return Check.maps(1, Check.g(0));
    }

    /** Turned about constants: each product of x and y is x. */
    private static Eggboxery turnedAbout() {
        return Check.relations(2, Check.g(3, 0), Check.g(0, 3));
    }

    /** Two rows and two columns of idempotents: a product has the row of the left one, the column of the right one. */
    private static Eggboxery twoByTwo() {
        return Check.maps(5, Check.g(1, 1, 1, 3, 3), Check.g(2, 2, 2, 4, 4), Check.g(3, 1, 1, 3, 3),
                Check.g(4, 2, 2, 4, 4));
    }

    // ---- 18: "'R', 'L', 'H' or 'J'" ----

    private static void promise18Likenesses() {
        Eggboxery x = Check.steps();
        for (int by = 0; by < 128; by++) {
            char asked = (char) by;
            Object due = "RLHJ".indexOf(asked) >= 0 ? (Object) 4 : "throws." + ILLEGAL;
            Check.due("18 classes by " + by, Check.answerOf(() -> x.classes(asked)), due);
            Object lowest = "RLHJ".indexOf(asked) >= 0 ? (Object) 3 : "throws." + ILLEGAL;
            Check.due("19 classOf by " + by, Check.answerOf(() -> x.classOf(3, asked)), lowest);
            Object below = "RLJ".indexOf(asked) >= 0 ? (Object) true : "throws." + ILLEGAL;
            Check.due("20 isBelow by " + by, Check.answerOf(() -> x.isBelow(3, 3, asked)), below);
        }
    }

    private static void promise18FewestAndMostClasses() {
        for (char by : "RLHJ".toCharArray()) {
            Check.due("18 one element by " + by, one().classes(by), 1);
            Check.due("18 a group by " + by, Check.ordersOfFour().classes(by), 1);
            Check.due("18 all apart by " + by, chain().classes(by), 6);
        }
        Eggboxery turned = turnedAbout();
        Check.due("18 two rows", turned.classes('R') * 10 + turned.classes('L'), 21);
        Eggboxery constants = Check.constants();
        Check.due("18 three columns", constants.classes('R') * 10 + constants.classes('L'), 13);
        Check.due("18 of three columns H", constants.classes('H') * 10 + constants.classes('J'), 31);
    }

    // ---- 19: "the lowest element of the class of an element" ----

    private static void promise19TheLowestIsItsOwn() {
        Eggboxery x = Check.ordersOfFour();
        for (char by : "RLHJ".toCharArray()) {
            Check.due("19 the first one is its own, by " + by, x.classOf(0, by), 0);
            Check.due("19 the last one has the first one, by " + by, x.classOf(23, by), 0);
            for (int element = 0; element < 6; element++) {
                Check.due("19 all apart, by " + by, chain().classOf(element, by), element);
            }
        }
        Eggboxery constants = Check.constants();
        Check.due("19 apart by L alone", constants.classOf(2, 'R') + constants.classOf(2, 'J'), 0);
        Check.due("19 its own by L and H", constants.classOf(2, 'L') * 10 + constants.classOf(2, 'H'), 22);
    }

    private static void promise19FirstAndLast() {
        Eggboxery x = chain();
        for (int none : new int[] {-1, 6, Integer.MIN_VALUE, Integer.MAX_VALUE}) {
            Check.refused("19 no element " + none, OUTSIDE, () -> x.classOf(none, 'R'));
            Check.refused("19 nor a likeness", OUTSIDE, () -> x.classOf(none, 'D'));
        }
        Check.refused("19 no likeness", ILLEGAL, () -> x.classOf(5, 'D'));
    }

    // ---- 20: "x is below y by 'R' if x is y, or y s" ----

    private static void promise20Orders() {
        Eggboxery x = chain();
        for (int element = 0; element < 6; element++) {
            for (int other = 0; other < 6; other++) {
                for (char by : "RLJ".toCharArray()) {
                    Check.due("20 of a chain by " + by, x.isBelow(element, other, by), element >= other);
                }
            }
        }
        for (int none : new int[] {-1, 6, Integer.MIN_VALUE, Integer.MAX_VALUE}) {
            Check.refused("20 no element " + none, OUTSIDE, () -> x.isBelow(none, 5, 'R'));
            Check.refused("20 no other one " + none, OUTSIDE, () -> x.isBelow(5, none, 'R'));
            Check.refused("20 nor an order", OUTSIDE, () -> x.isBelow(none, none, 'H'));
        }
        Check.refused("20 H is none", ILLEGAL, () -> x.isBelow(5, 5, 'H'));
    }

    /** "another one, or the same": also where no product of an element is itself. */
    private static void promise20ItIsItself() {
        Eggboxery x = chain();
        for (int element = 0; element < 6; element++) {
            Check.due("20 R", x.isBelow(element, element, 'R'), true);
            Check.due("20 L", x.isBelow(element, element, 'L'), true);
            Check.due("20 J", x.isBelow(element, element, 'J'), true);
        }
    }

    // ---- 21 and 22: "x y x is x, and y x y is y"; "the index, from 0, by rising elements" ----

    private static void promise21NoneOneAndAll() {
        Eggboxery x = chain();
        for (int element = 0; element < 5; element++) {
            Check.due("21 none", x.inverses(element), 0);
        }
        Check.due("21 one, itself", x.inverses(5), 1);
        Check.due("21 one alone", one().inverses(0), 1);
        Check.due("21 all", twoByTwo().inverses(3), 4);
    }

    private static void promise22Indices() {
        Eggboxery x = chain();
        Check.due("22 the only one", x.inverse(5, 0), 5);
        Check.refused("22 behind the only one", NONE, () -> x.inverse(5, 1));
        Check.refused("22 ahead of the only one", NONE, () -> x.inverse(5, -1));
        Check.refused("22 there is none", NONE, () -> x.inverse(4, 0));
        Check.refused("22 there is none, and no such index", NONE, () -> x.inverse(4, -1));
        Check.refused("22 what is listed first", OUTSIDE, () -> x.inverse(6, 0));
        Check.refused("22 what is listed first", OUTSIDE, () -> x.inverse(-1, 1));
        for (int wild : WILD) {
            Check.refused("22 no index", NONE, () -> x.inverse(5, wild));
            Check.refused("22 no element", OUTSIDE, () -> x.inverse(wild, 0));
        }
        Eggboxery y = twoByTwo();
        for (int index = 0; index < 4; index++) {
            Check.due("22 by rising elements", y.inverse(0, index), index);
        }
        Check.refused("22 behind four", NONE, () -> y.inverse(0, 4));
    }

    // ---- 23 and 24: "an element that is its own square" ----

    private static void promise23OneAndAll() {
        Check.due("23 one alone", one().idempotents(), 1);
        Check.due("23 of a group one", Check.ordersOfFour().idempotents(), 1);
        Check.due("23 of a chain one", chain().idempotents(), 1);
        Check.due("23 all", twoByTwo().idempotents(), 4);
    }

    private static void promise24Indices() {
        Eggboxery x = chain();
        Check.due("24 the only one", x.idempotent(0), 5);
        Check.refused("24 behind it", NONE, () -> x.idempotent(1));
        Check.refused("24 ahead of it", NONE, () -> x.idempotent(-1));
        Eggboxery y = twoByTwo();
        for (int index = 0; index < 4; index++) {
            Check.due("24 by rising elements", y.idempotent(index), index);
        }
        Check.refused("24 behind the last", NONE, () -> y.idempotent(4));
        for (int wild : WILD) {
            Check.refused("24 no index", NONE, () -> y.idempotent(wild));
        }
    }

    // ---- 25: "how many rows, or columns, the box of an element has" ----

    private static void promise25OneAndMany() {
        Eggboxery x = one();
        Check.due("25 one alone", x.sides(0, true) * 10 + x.sides(0, false), 11);
        Eggboxery constants = Check.constants();
        Check.due("25 three columns", constants.sides(2, true) * 10 + constants.sides(2, false), 13);
        Eggboxery turned = turnedAbout();
        Check.due("25 two rows", turned.sides(1, true) * 10 + turned.sides(1, false), 21);
        Eggboxery y = twoByTwo();
        Check.due("25 two of each", y.sides(3, true) * 10 + y.sides(3, false), 22);
        Eggboxery z = chain();
        for (int element = 0; element < 6; element++) {
            Check.due("25 one of each", z.sides(element, true) * 10 + z.sides(element, false), 11);
        }
        for (int none : new int[] {-1, 6, Integer.MIN_VALUE, Integer.MAX_VALUE}) {
            Check.refused("25 rows of " + none, OUTSIDE, () -> z.sides(none, true));
            Check.refused("25 columns of " + none, OUTSIDE, () -> z.sides(none, false));
        }
    }

    // ---- 26: "how many, 0 without a group" ----

    private static void promise26WithoutAGroup() {
        Eggboxery x = chain();
        for (int element = 0; element < 5; element++) {
            Check.due("26 none", x.group(element), 0);
        }
        Check.due("26 the last one has one", x.group(5), 1);
        for (int none : new int[] {-1, 6, Integer.MIN_VALUE, Integer.MAX_VALUE}) {
            Check.refused("26 no element " + none, OUTSIDE, () -> x.group(none));
        }
    }

    private static void promise26OneAndMany() {
        Check.due("26 one alone", one().group(0), 1);
        Check.due("26 two", Check.maps(2, Check.g(1, 0)).group(1), 2);
        Check.due("26 all orders of four", Check.ordersOfFour().group(23), 24);
        Check.due("26 of more rows and columns", twoByTwo().group(2), 1);
        // The square sends all points together, but ab is an idempotent of the same box.
        Eggboxery x = Check.maps(3, Check.g(1, 2, 2), Check.g(0, 0, 1));
        Check.due("26 ab is in the box of a", x.classOf(x.product(0, 1), 'J'), 0);
        Check.due("26 aa is not", x.classOf(x.product(0, 0), 'J') == 0, false);
        Check.due("26 a box with a group, an element without", x.group(0), 1);
    }

    // ---- 27: "whether a product of an element of a column of a box and one of a row of it is in the box" ----

    private static void promise27RowsAndColumns() {
        Eggboxery x = Check.constants();
        for (int column = 0; column < 3; column++) {
            Check.due("27 column " + column, x.meets(1, column, 0), true);
        }
        Check.refused("27 a fourth column", NONE, () -> x.meets(1, 3, 0));
        Check.refused("27 a column ahead", NONE, () -> x.meets(1, -1, 0));
        Check.refused("27 a second row", NONE, () -> x.meets(1, 0, 1));
        Check.refused("27 a row ahead", NONE, () -> x.meets(1, 0, -1));
        Check.refused("27 neither", NONE, () -> x.meets(1, 3, 1));
        Check.refused("27 what is listed first", OUTSIDE, () -> x.meets(3, 3, 1));
        Check.refused("27 what is listed first", OUTSIDE, () -> x.meets(-1, 0, 0));
        for (int wild : WILD) {
            Check.refused("27 no column", NONE, () -> x.meets(0, wild, 0));
            Check.refused("27 no row", NONE, () -> x.meets(0, 0, wild));
            Check.refused("27 no element", OUTSIDE, () -> x.meets(wild, 0, 0));
        }
        Eggboxery turned = turnedAbout();
        Check.due("27 the second row", turned.meets(0, 0, 1), true);
        Check.refused("27 a third row", NONE, () -> turned.meets(0, 0, 2));
        Check.refused("27 a second column", NONE, () -> turned.meets(0, 1, 0));
    }

    private static void promise27WithoutAGroup() {
        Eggboxery x = chain();
        for (int element = 0; element < 5; element++) {
            int a = element;
            Check.due("27 without a group no product is", x.meets(a, 0, 0), false);
            Check.refused("27 without a second row", NONE, () -> x.meets(a, 0, 1));
        }
        Check.due("27 with one it is", x.meets(5, 0, 0), true);
    }

    // ---- 28: "the greatest number of classes by J in a row, .. of which it is the last" ----

    private static void promise28LowestAndHighest() {
        Check.due("28 one alone", one().height(0), 1);
        Check.due("28 one class", Check.ordersOfFour().height(23), 1);
        Check.due("28 the least class", twoByTwo().height(3), 1);
        Eggboxery x = chain();
        for (int element = 0; element < 6; element++) {
            Check.due("28 of a chain", x.height(element), 6 - element);
        }
        for (int none : new int[] {-1, 6, Integer.MIN_VALUE, Integer.MAX_VALUE}) {
            Check.refused("28 no element " + none, OUTSIDE, () -> x.height(none));
        }
    }

    /** Two that are not below one another do not count for one another. */
    private static void promise28SideBySide() {
        Eggboxery x = Check.maps(3, Check.g(0, -1, -1), Check.g(-1, 1, -1), Check.g(-1, -1, 2));
        for (int element = 0; element < 3; element++) {
            Check.due("28 right above the one to none", x.height(element), 2);
        }
        Check.due("28 the one to none", x.height(3), 1);
        // A long row and a short one to the same class: the longer one counts.
        Eggboxery y = Check.maps(6, Check.g(1, 2, 3, -1, -1, -1), Check.g(-1, -1, -1, -1, 5, -1),
                Check.g(0, 1, 2, 3, 4, 5));
        Check.due("28 the longer one of two", y.height(2), 5);
    }

    // ---- 29: "the greatest number of classes, in such a row, that have a group of more than one element" ----

    private static void promise29MoreThanOne() {
        Check.due("29 a group of one", one().weight(), 0);
        Check.due("29 no group but that of one", chain().weight(), 0);
        Check.due("29 four groups of one", twoByTwo().weight(), 0);
        Check.due("29 a group of two", Check.maps(2, Check.g(1, 0)).weight(), 1);
        Check.due("29 a group of 24", Check.ordersOfFour().weight(), 1);
        // Two elements are no group of two: a row of constants.
        Check.due("29 two constants", Check.maps(2, Check.g(0, 0), Check.g(1, 1)).weight(), 0);
    }

    private static void promise29InOneRow() {
        // A swap of all four points, one of two of them, and what leads to none.
        Eggboxery x = Check.maps(4, Check.g(1, 0, 3, 2), Check.g(1, 0, -1, -1));
        Check.due("29 two in a row", x.weight(), 2);
        Check.add(x, 0, -1, -1, -1);
        Check.due("29 and groups of one below them", x.weight(), 2);
        Check.due("29 side by side", Check.maps(4, Check.g(1, 0, -1, -1), Check.g(-1, -1, 3, 2)).weight(), 1);
    }

    /** The longest row has no such group, a shorter one has. */
    private static void promise29NotTheLongestRow() {
        Eggboxery x = Check.maps(6, Check.g(1, 2, 3, -1, -1, -1), Check.g(-1, -1, -1, -1, 5, 4));
        Check.due("29 above them it is higher", x.height(0), 4);
        Check.due("29 than the group", x.height(1), 2);
        Check.due("29 which is counted", x.weight(), 1);
        // And below a group that is above both.
        Eggboxery y = Check.maps(6, Check.g(0, 1, 2, 3, 5, 4), Check.g(1, 2, 3, -1, -1, -1),
                Check.g(-1, -1, -1, -1, 5, 4));
        Check.due("29 the longest row to the group above", y.height(0), 5);
        Check.due("29 the shorter one has two groups", y.weight(), 2);
    }

    // ---- 30: "'i' the identity, 'z' the zero, 'k' the lowest element of the least class by J" ----

    private static void promise30WithoutIdentityOrZero() {
        Eggboxery x = Check.constants();
        Check.refused("30 no identity", NONE, () -> x.special('i'));
        Check.refused("30 no zero", NONE, () -> x.special('z'));
        Check.due("30 a least class", x.special('k'), 0);
        for (int what = 0; what < 128; what++) {
            char asked = (char) what;
            Object due = asked == 'k' ? (Object) 0 : asked == 'i' || asked == 'z' ? "throws." + NONE
                    : "throws." + ILLEGAL;
            Check.due("30 special " + what, Check.answerOf(() -> x.special(asked)), due);
        }
        Check.add(x, 0, 1, 2);
        Check.due("30 an identity, the last one", x.special('i'), 3);
        Check.refused("30 still no zero", NONE, () -> x.special('z'));
        Eggboxery y = chain();
        Check.refused("30 a chain has no identity", NONE, () -> y.special('i'));
        Check.due("30 its zero is the last one", y.special('z') * 10 + y.special('k'), 55);
        Eggboxery z = Check.maps(2, Check.g(1, 0));
        Check.due("30 a group has an identity", z.special('i'), 1);
        Check.refused("30 and no zero", NONE, () -> z.special('z'));
        Check.due("30 its least class is all", z.special('k'), 0);
    }

    private static void promise30OneAlone() {
        Eggboxery x = one();
        Check.due("30 it is all of them", x.special('i') + x.special('z') + x.special('k'), 0);
    }

    /** An identity, or a zero, from one side alone is none. */
    private static void promise30OneSideAlone() {
        Eggboxery x = turnedAbout();
        Check.refused("30 identities behind alone", NONE, () -> x.special('i'));
        Check.refused("30 zeros ahead alone", NONE, () -> x.special('z'));
        Eggboxery y = Check.maps(2, Check.g(0, 0), Check.g(1, 1));
        Check.refused("30 identities ahead alone", NONE, () -> y.special('i'));
        Check.refused("30 zeros behind alone", NONE, () -> y.special('z'));
    }

    private static void promise30LeastClass() {
        Eggboxery x = Check.maps(3, Check.g(0, 1, 2), Check.g(1, 1, 1), Check.g(2, 2, 2));
        Check.due("30 the lowest one of two", x.special('k'), 1);
        Check.due("30 the first one is the identity", x.special('i'), 0);
    }

    // ---- 31: "have a product with some element, either way, that is the identity" ----

    private static void promise31FewestAndMost() {
        Check.due("31 one alone", one().units(), 1);
        Check.due("31 the identity alone", Check.maps(3, Check.g(0, 1, 2), Check.g(1, 1, 1)).units(), 1);
        Check.due("31 all", Check.ordersOfFour().units(), 24);
        Check.due("31 two of three", Check.maps(2, Check.g(1, 0), Check.g(-1, -1)).units(), 2);
    }

    private static void promise31WithoutIdentity() {
        Check.refused("31 constants", NONE, () -> Check.constants().units());
        Check.refused("31 a chain", NONE, () -> chain().units());
        Check.refused("31 one side alone", NONE, () -> turnedAbout().units());
    }
}
