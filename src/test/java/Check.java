import java.util.function.Supplier;

/** What the tests share: they compare, count what is wrong, and end with exit code 1 if something was. */
final class Check {
    private static int wrong = 0;
    private static int asked = 0;

    private Check() {
    }

    static void due(String call, Object got, Object want) {
        asked++;
        if (!got.equals(want)) {
            wrong++;
            System.out.println(call + " answered " + got + ", due is " + want);
        }
    }

    /** The answer of a call, or the plain name of what it throws behind "throws.". */
    static Object answerOf(Supplier<Object> call) {
        try {
            return call.get();
        } catch (RuntimeException thrown) {
            return "throws." + thrown.getClass().getSimpleName();
        }
    }

    static void refused(String call, String exception, Supplier<Object> asking) {
        due(call, answerOf(asking), "throws." + exception);
    }

    /** A workshop of maps with these generators. */
    static Eggboxery maps(int points, int[]... generators) {
        return with('t', points, generators);
    }

    /** A workshop of relations with these generators. */
    static Eggboxery relations(int points, int[]... generators) {
        return with('r', points, generators);
    }

    private static Eggboxery with(char kind, int points, int[][] generators) {
        Eggboxery made = new Eggboxery();
        made.begin(kind, points);
        for (int[] generator : generators) {
            add(made, generator);
        }
        return made;
    }

    static int add(Eggboxery workshop, int... generator) {
        row(workshop, generator);
        return workshop.generator();
    }

    static void row(Eggboxery workshop, int... numbers) {
        for (int number : numbers) {
            workshop.type(number);
        }
    }

    static void text(Eggboxery workshop, String signs) {
        workshop.wipe();
        for (int at = 0; at < signs.length(); at++) {
            workshop.sign(signs.charAt(at));
        }
    }

    /** All 27 maps of three points to themselves: a turn, a swap, and two points sent together. */
    static Eggboxery allMapsOfThree() {
        return maps(3, g(1, 2, 0), g(1, 0, 2), g(0, 0, 2));
    }

    /** All 24 orders of four points. */
    static Eggboxery ordersOfFour() {
        return maps(4, g(1, 2, 3, 0), g(1, 0, 2, 3));
    }

    /** All 256 maps of four points: too many to be known. */
    static Eggboxery tooMany() {
        return maps(4, g(1, 2, 3, 0), g(1, 0, 2, 3), g(0, 0, 2, 3));
    }

    /** The powers of one map: 0 to 1 to 2 to 3 to 4 to 2, so index 2 and period 3. */
    static Eggboxery powers() {
        return maps(5, g(1, 2, 3, 4, 2));
    }

    /** Each product of x and y is x: three constant maps would do the other way about. */
    static Eggboxery constants() {
        return maps(3, g(0, 0, 0), g(1, 1, 1), g(2, 2, 2));
    }

    /** Partial maps a: 0 to 1, and b: 1 to 2; then ab: 0 to 2, and all else is the empty one. */
    static Eggboxery steps() {
        return maps(3, g(1, -1, -1), g(-1, 2, -1));
    }

    static int[] g(int... images) {
        return images;
    }

    static void end() {
        System.out.println(asked + " answers asked, " + wrong + " not as due");
        if (wrong != 0) {
            System.exit(1);
        }
    }
}
