/** Promises 32 to 36. */
public final class CongruencesTest {
    private static final String UNSUPPORTED = "UnsupportedOperationException";
    private static final String OUTSIDE = "IndexOutOfBoundsException";

    public static void main(String[] args) {
        merged();
        areMerged();
        congruences();
        parts();
        endomorphisms();
        unknown(new Eggboxery());
        unknown(Check.tooMany());
        Check.end();
    }

    private static void unknown(Eggboxery x) {
        Check.refused("32 merged", UNSUPPORTED, () -> x.merged(-1, -1));
        Check.refused("33 areMerged", UNSUPPORTED, () -> x.areMerged(-1, -1, -1, -1));
        Check.refused("34 congruences", UNSUPPORTED, x::congruences);
        Check.refused("35 parts", UNSUPPORTED, x::parts);
        Check.refused("36 endomorphisms", UNSUPPORTED, x::endomorphisms);
    }

    /** The turns of six points: a congruence goes with each divisor. */
    private static Eggboxery turnsOfSix() {
        return Check.maps(6, Check.g(1, 2, 3, 4, 5, 0));
    }

    private static void merged() {
        Eggboxery x = turnsOfSix();
        Check.due("32 the same", x.merged(0, 0), 6);
        Check.due("32 one apart", x.merged(0, 1), 1);
        Check.due("32 two apart", x.merged(0, 2), 2);
        Check.due("32 three apart", x.merged(4, 1), 3);
        Eggboxery y = Check.steps();
        Check.due("32 ab and the empty one", y.merged(2, 3), 3);
        Check.due("32 a and b", y.merged(0, 1), 2);
        Check.due("32 a and the empty one", y.merged(0, 2), 2);
        for (int none : new int[] {-1, 4, 200, Integer.MIN_VALUE, Integer.MAX_VALUE}) {
            Check.refused("32 no element", OUTSIDE, () -> y.merged(none, 0));
            Check.refused("32 no other one", OUTSIDE, () -> y.merged(0, none));
        }
        Check.due("32 all maps of three points", Check.allMapsOfThree().merged(0, 1), 2);
        Check.due("32 constants are put together just as told", Check.constants().merged(0, 2), 2);
    }

    private static void areMerged() {
        Eggboxery x = turnsOfSix();
        Check.due("33 three apart", x.areMerged(0, 3, 1, 4), true);
        Check.due("33 one apart", x.areMerged(0, 3, 1, 2), false);
        Check.due("33 the same", x.areMerged(0, 3, 5, 5), true);
        Check.due("33 nothing put together", x.areMerged(2, 2, 0, 1), false);
        Check.due("33 by steps", x.areMerged(0, 2, 1, 5), true);
        Eggboxery y = Check.steps();
        Check.due("33 a and b make ab and the empty one", y.areMerged(0, 1, 3, 2), true);
        Check.due("33 but not them", y.areMerged(0, 1, 0, 2), false);
        for (int none : new int[] {-1, 4, 200, Integer.MIN_VALUE, Integer.MAX_VALUE}) {
            Check.refused("33 none first", OUTSIDE, () -> y.areMerged(none, 0, 0, 0));
            Check.refused("33 none second", OUTSIDE, () -> y.areMerged(0, none, 0, 0));
            Check.refused("33 none third", OUTSIDE, () -> y.areMerged(0, 0, none, 0));
            Check.refused("33 none fourth", OUTSIDE, () -> y.areMerged(0, 0, 0, none));
        }
    }

    private static void congruences() {
        Check.due("34 the turns of six", turnsOfSix().congruences(), 4);
        Check.due("34 one", Check.maps(1, Check.g(0)).congruences(), 1);
        Check.due("34 two", Check.maps(2, Check.g(1, 0)).congruences(), 2);
        Check.due("34 constants: each way to put three together", Check.constants().congruences(), 5);
        Check.due("34 steps", Check.steps().congruences(), 6);
        Check.due("34 orders of three", Check.maps(3, Check.g(1, 2, 0), Check.g(1, 0, 2)).congruences(), 3);
        // The seven partial maps of two points that send none together.
        Check.due("34 seven", Check.maps(2, Check.g(1, 0), Check.g(0, -1)).congruences(), 4);
        Eggboxery eight = Check.maps(4, Check.g(1, 2, 3, 0), Check.g(2, 1, 0, 3));
        Check.due("34 there are eight", eight.size(), 8);
        Check.refused("34 eight", UNSUPPORTED, eight::congruences);
        Check.due("34 a chain of three", Check.maps(3, Check.g(0, 1, 1), Check.g(0, 0, 0), Check.g(0, 1, 2))
                .congruences(), 4);
    }

    private static void parts() {
        Check.due("35 constants: each part but none", Check.constants().parts(), 7);
        Check.due("35 the turns of six", turnsOfSix().parts(), 4);
        Check.due("35 one", Check.maps(1, Check.g(0)).parts(), 1);
        // The empty one with what is there of a, b and ab, but not a and b without ab.
        Check.due("35 steps", Check.steps().parts(), 7);
        Check.due("35 nine", Check.maps(2, Check.g(1, 0), Check.g(0, 0), Check.g(0, -1)).parts(), 79);
        // A group's parts are its groups: of the turns and flips of five points the whole, the turns, five flips, one.
        Eggboxery ten = Check.maps(5, Check.g(1, 2, 3, 4, 0), Check.g(0, 4, 3, 2, 1));
        Check.due("35 there are ten", ten.size(), 10);
        Check.due("35 ten", ten.parts(), 8);
        Check.add(ten, -1, -1, -1, -1, -1);
        Check.due("35 there are eleven", ten.size(), 11);
        Check.refused("35 eleven", UNSUPPORTED, ten::parts);
    }

    private static void endomorphisms() {
        Check.due("36 the turns of six", turnsOfSix().endomorphisms(), 6);
        Check.due("36 constants: each map", Check.constants().endomorphisms(), 27);
        Check.due("36 steps", Check.steps().endomorphisms(), 15);
        Check.due("36 one", Check.maps(1, Check.g(0)).endomorphisms(), 1);
        Check.due("36 orders of three", Check.maps(3, Check.g(1, 2, 0), Check.g(1, 0, 2)).endomorphisms(), 10);
        Check.due("36 orders of four", Check.ordersOfFour().endomorphisms(), 58);
        Check.due("36 all maps of three points", Check.allMapsOfThree().endomorphisms(), 40);
        Eggboxery x = Check.maps(2, Check.g(1, 0), Check.g(1, 0), Check.g(1, 0));
        Check.due("36 three like ones", x.endomorphisms(), 2);
        Check.add(x, 1, 0);
        Check.refused("36 four like ones", UNSUPPORTED, x::endomorphisms);
        thirtyAndMore();
    }

    private static void thirtyAndMore() {
        Eggboxery x = Check.maps(6, Check.g(1, 2, 3, 4, 0, 0), Check.g(1, 2, 3, 4, 0, 5));
        Check.due("36 there are thirty", x.size(), 30);
        Check.due("36 thirty", x.endomorphisms(), 55);
        Check.add(x, -1, -1, -1, -1, -1, -1);
        Check.due("36 there are thirty-one", x.size(), 31);
        Check.refused("36 thirty-one", UNSUPPORTED, x::endomorphisms);
    }
}
