/** The bounds of promises 32 to 36, and of what 'Congruences' says: just inside, at them, just beyond. */
public final class EdgesOfCongruencesTest {
    private static final String UNSUPPORTED = "UnsupportedOperationException";
    private static final String OUTSIDE = "IndexOutOfBoundsException";
    private static final int[] TO_NONE = {-1, -1, -1, -1, -1, -1};
    private static final int[] STAY = {0, 1, 2, 3, 4, 5};

    public static void main(String[] args) {
        promise32TheSame();
        promise32OneClass();
        promise32FirstAndLast();
        promise33TheSame();
        promise33FirstAndLast();
        promise34OneAndTwo();
        promise34SixSevenEight();
        promise34SevenOfAChain();
        promise35OneAndTwo();
        promise35NineTenEleven();
        promise36OneAndTwo();
        promise36TwentyNineThirtyThirtyOne();
        promise36TwoThreeFourGenerators();
        promise36LikeOnesCountedEach();
        Check.end();
    }

    private static int[] first(int points, int[] row) {
        return java.util.Arrays.copyOf(row, points);
    }

    private static Eggboxery one() {
        return Check.maps(1, Check.g(0));
    }

    private static Eggboxery chain() {
        return Check.maps(6, Check.g(1, 2, 3, 4, 5, -1));
    }

    private static Eggboxery twoHundred() {
        return Check.maps(6, Check.g(1, 3, 5, 4, 0, 0), Check.g(1, 5, 3, 2, 5, 5), STAY);
    }

    // ---- 32: "the least one of two elements is that with the fewest put together"; "another one, or the same" ----

    private static void promise32TheSame() {
        Check.due("32 one alone", one().merged(0, 0), 1);
        Eggboxery x = chain();
        for (int element = 0; element < 6; element++) {
            Check.due("32 the same: nothing is put together", x.merged(element, element), 6);
        }
        Eggboxery most = twoHundred();
        Check.due("32 the same of 200", most.merged(0, 0), 200);
        Check.due("32 the last of 200", most.merged(199, 199), 200);
    }

    private static void promise32OneClass() {
        Eggboxery x = chain();
        Check.due("32 the first two, and so all", x.merged(0, 1), 1);
        Check.due("32 the last two alone", x.merged(4, 5), 5);
        Check.due("32 the other way about", x.merged(5, 4), 5);
        Check.due("32 the first and the last", x.merged(0, 5), 1);
    }

    private static void promise32FirstAndLast() {
        Eggboxery x = chain();
        for (int none : new int[] {-1, 6, Integer.MIN_VALUE, Integer.MAX_VALUE}) {
            Check.refused("32 no element " + none, OUTSIDE, () -> x.merged(none, 5));
            Check.refused("32 no other one " + none, OUTSIDE, () -> x.merged(5, none));
            Check.refused("32 neither " + none, OUTSIDE, () -> x.merged(none, none));
        }
    }

    // ---- 33: "whether the least congruence of two elements puts two others together" ----

    private static void promise33TheSame() {
        Check.due("33 one alone", one().areMerged(0, 0, 0, 0), true);
        Eggboxery x = chain();
        for (int element = 0; element < 6; element++) {
            Check.due("33 what is the same is together", x.areMerged(0, 0, element, element), true);
            Check.due("33 the two themselves", x.areMerged(element, 5, element, 5), true);
            Check.due("33 by the same none else", x.areMerged(element, element, element, (element + 1) % 6), false);
        }
        Check.due("33 all that is behind", x.areMerged(2, 3, 2, 5), true);
        Check.due("33 nothing that is ahead", x.areMerged(2, 3, 1, 2), false);
    }

    private static void promise33FirstAndLast() {
        Eggboxery x = chain();
        for (int none : new int[] {-1, 6, Integer.MIN_VALUE, Integer.MAX_VALUE}) {
            Check.refused("33 first " + none, OUTSIDE, () -> x.areMerged(none, 5, 5, 5));
            Check.refused("33 second " + none, OUTSIDE, () -> x.areMerged(5, none, 5, 5));
            Check.refused("33 third " + none, OUTSIDE, () -> x.areMerged(5, 5, none, 5));
            Check.refused("33 fourth " + none, OUTSIDE, () -> x.areMerged(5, 5, 5, none));
        }
    }

    // ---- 34: "there may be at most 7 elements" ----

    private static void promise34OneAndTwo() {
        Check.due("34 one element", one().congruences(), 1);
        Check.due("34 two elements", Check.maps(1, Check.g(0), Check.g(-1)).congruences(), 2);
    }

    private static void promise34SixSevenEight() {
        // A group of six, turns of two and of three points at once: a congruence goes with each part that is a group.
        Eggboxery x = Check.maps(6, Check.g(1, 0, 3, 4, 2, 0));
        Check.due("34 six", x.size(), 6);
        Check.due("34 of six", x.congruences(), 4);
        // What leaves all is apart, or together with the old identity.
        Check.add(x, STAY);
        Check.due("34 seven", x.size(), 7);
        Check.due("34 of seven", x.congruences(), 8);
        Check.add(x, TO_NONE);
        Check.due("34 eight", x.size(), 8);
        Check.refused("34 of eight", UNSUPPORTED, x::congruences);
        x.begin('t', 1);
        Check.refused("34 without generators", UNSUPPORTED, x::congruences);
        Check.add(x, 0);
        Check.due("34 begun anew", x.congruences(), 1);
        Check.refused("34 of 200", UNSUPPORTED, () -> twoHundred().congruences());
    }

    /** All from some power on together; or, with an identity more, all. */
    private static void promise34SevenOfAChain() {
        Eggboxery x = chain();
        Check.due("34 six of a chain", x.congruences(), 6);
        Check.add(x, STAY);
        Check.due("34 seven of a chain", x.congruences(), 7);
    }

    // ---- 35: "a set of elements, not empty, that has all its products; to count them, at most 10 elements" ----

    private static void promise35OneAndTwo() {
        Check.due("35 the empty one is none", one().parts(), 1);
        Check.due("35 two, each alone, or both", Check.maps(1, Check.g(0), Check.g(-1)).parts(), 3);
        Check.due("35 a swap needs its square", Check.maps(2, Check.g(1, 0)).parts(), 2);
    }

    private static void promise35NineTenEleven() {
        Shop nine = Shop.maps("nine", 4, Check.g(0, -1, 2, 2), Check.g(3, 2, 0, 0));
        Eggboxery x = nine.make();
        Check.due("35 nine", x.size(), 9);
        int ofNine = x.parts();
        Check.due("35 of nine", ofNine, nine.model().parts());
        // Each part without and with what leaves all, and this alone.
        Check.add(x, first(4, STAY));
        Check.due("35 ten", x.size(), 10);
        Check.due("35 of ten", x.parts(), 2 * ofNine + 1);
        Check.add(x, first(4, TO_NONE));
        Check.due("35 eleven", x.size(), 11);
        Check.refused("35 of eleven", UNSUPPORTED, x::parts);
        Check.refused("35 of 200", UNSUPPORTED, () -> twoHundred().parts());
        x.begin('r', 1);
        Check.add(x, 1);
        Check.due("35 begun anew", x.parts(), 1);
    }

    // ---- 36: "at most 30, and at most 3 generators, like ones counted each" ----

    private static void promise36OneAndTwo() {
        Check.due("36 one element", one().endomorphisms(), 1);
        // What is above stays above, or goes to where the other one goes.
        Check.due("36 two elements", Check.maps(1, Check.g(0), Check.g(-1)).endomorphisms(), 3);
    }

    private static void promise36TwentyNineThirtyThirtyOne() {
        Shop twentyNine = Shop.maps("29", 5, Check.g(1, 0, 4, 1, 2), Check.g(3, 4, 4, 2, 2), first(5, STAY));
        Shop thirty = Shop.maps("30", 5, Check.g(2, 0, 0, 1, 3), Check.g(2, 4, 0, 0, 4), first(5, TO_NONE));
        Shop two = Shop.maps("30 by two", 5, Check.g(1, 4, 4, 0, 0), Check.g(4, 4, 4, 4, 0));
        int[] sizes = {29, 30, 30};
        int number = 0;
        for (Shop shop : new Shop[] {twentyNine, thirty, two}) {
            Eggboxery x = shop.make();
            Check.due("36 how many", x.size(), sizes[number]);
            Check.due("36 of " + shop.name, x.endomorphisms(), shop.model().endomorphisms());
            number++;
        }
        Eggboxery more = two.make();
        Check.due("36 of thirty", more.endomorphisms() > 0, true);
        Check.add(more, first(5, STAY));
        Check.due("36 thirty-one", more.size(), 31);
        Check.refused("36 of thirty-one", UNSUPPORTED, more::endomorphisms);
        Check.refused("36 of 200", UNSUPPORTED, () -> twoHundred().endomorphisms());
    }

    private static void promise36TwoThreeFourGenerators() {
        Eggboxery x = Check.maps(2, Check.g(0, 0), Check.g(1, 1));
        Check.due("36 two generators: each map of two constants", x.endomorphisms(), 4);
        Check.add(x, -1, -1);
        Check.due("36 three generators", x.endomorphisms(), Shop.maps("three", 2, Check.g(0, 0), Check.g(1, 1),
                Check.g(-1, -1)).model().endomorphisms());
        Check.add(x, 0, 1);
        Check.due("36 four elements", x.size(), 4);
        Check.refused("36 four generators", UNSUPPORTED, x::endomorphisms);
    }

    private static void promise36LikeOnesCountedEach() {
        Eggboxery x = one();
        for (int generators = 1; generators <= 3; generators++) {
            Check.due("36 like ones: " + generators, x.endomorphisms(), 1);
            Check.add(x, 0);
        }
        Check.due("36 one element still", x.size(), 1);
        Check.refused("36 four like ones", UNSUPPORTED, x::endomorphisms);
        x.begin('t', 1);
        Check.refused("36 none", UNSUPPORTED, x::endomorphisms);
    }
}
