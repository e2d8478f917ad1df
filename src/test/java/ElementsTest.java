/** Promises 6 to 17. */
public final class ElementsTest {
    private static final String ILLEGAL = "IllegalArgumentException";
    private static final String UNSUPPORTED = "UnsupportedOperationException";
    private static final String OUTSIDE = "IndexOutOfBoundsException";
    private static final String NONE = "NoSuchElementException";
    private static final int[] NO_INDICES = {-1, 1000, Integer.MIN_VALUE, Integer.MAX_VALUE};

    public static void main(String[] args) {
        size();
        image();
        lengthAndLetter();
        product();
        power();
        omegaIndexPeriod();
        find();
        word();
        rules();
        unknown(new Eggboxery());
        unknown(Check.tooMany());
        Check.end();
    }

    private static void unknown(Eggboxery x) {
        Check.refused("6 size", UNSUPPORTED, x::size);
        Check.refused("7 image", UNSUPPORTED, () -> x.image(-1, -1));
        Check.refused("8 length", UNSUPPORTED, () -> x.length(-1));
        Check.refused("9 letter", UNSUPPORTED, () -> x.letter(-1, -1));
        Check.refused("10 product", UNSUPPORTED, () -> x.product(-1, -1));
        Check.refused("11 power", UNSUPPORTED, () -> x.power(-1, 0));
        Check.refused("12 omega", UNSUPPORTED, () -> x.omega(-1));
        Check.refused("13 index", UNSUPPORTED, () -> x.index(-1));
        Check.refused("14 period", UNSUPPORTED, () -> x.period(-1));
        Check.refused("15 find", UNSUPPORTED, x::find);
        Check.refused("16 word", UNSUPPORTED, x::word);
        Check.refused("17 rules", UNSUPPORTED, x::rules);
    }

    private static void size() {
        Check.due("6 all maps of three points", Check.allMapsOfThree().size(), 27);
        Check.due("6 all orders of five points", Check.maps(5, Check.g(1, 2, 3, 4, 0), Check.g(1, 0, 2, 3, 4)).size(),
                120);
        Check.due("6 all relations on two points", Check.relations(2, Check.g(2, 1), Check.g(1, 3), Check.g(1, 0),
                Check.g(3, 3)).size(), 16);
        Check.due("6 one", Check.maps(1, Check.g(0)).size(), 1);
        Check.due("6 maps with none and without", Check.maps(2, Check.g(1, 0), Check.g(0, 0), Check.g(0, -1)).size(),
                9);
        Check.due("6 just two hundred", twoHundred().size(), 200);
        Eggboxery tooMany = twoHundredAndOne();
        Check.refused("6 one more", UNSUPPORTED, tooMany::size);
        Eggboxery x = Check.maps(3, Check.g(1, 2, 0));
        Check.due("6 three turns", x.size(), 3);
        Check.add(x, 1, 0, 2);
        Check.due("6 with a swap", x.size(), 6);
        Check.add(x, 0, 0, 2);
        Check.due("6 with two sent together", x.size(), 27);
        Check.add(x, 0, 0, 0);
        Check.due("6 with what is there already", x.size(), 27);
    }

    /** Found by search among triples of maps with none on six points. */
    private static Eggboxery twoHundred() {
        return Check.maps(6, Check.g(-1, 1, -1, 1, 5, 3), Check.g(-1, 2, 4, 3, 2, 0), Check.g(1, 3, 5, 1, -1, 1));
    }

    private static Eggboxery twoHundredAndOne() {
        return Check.maps(6, Check.g(5, 4, 3, 2, 3, -1), Check.g(3, -1, 0, 4, 3, -1), Check.g(0, 4, -1, 4, 0, 3));
    }

    private static void image() {
        Eggboxery x = Check.steps();
        Check.due("7 a from 0", x.image(0, 0), 1);
        Check.due("7 a from 1", x.image(0, 1), -1);
        Check.due("7 b from 1", x.image(1, 1), 2);
        Check.due("7 aa from 0", x.image(2, 0), -1);
        Check.due("7 ab from 0", x.image(3, 0), 2);
        for (int none : new int[] {-1, 3, 6, Integer.MIN_VALUE, Integer.MAX_VALUE}) {
            Check.refused("7 no point " + none, OUTSIDE, () -> x.image(0, none));
        }
        for (int none : new int[] {-1, 4, 200, Integer.MIN_VALUE, Integer.MAX_VALUE}) {
            Check.refused("7 no element " + none, OUTSIDE, () -> x.image(none, 0));
        }
        Eggboxery y = Check.relations(3, Check.g(3, 4, 0), Check.g(6, 1, 2));
        Check.due("7 a relation from 0", y.image(0, 0), 3);
        Check.due("7 a relation from 2", y.image(0, 2), 0);
        Check.due("7 first by a, then by b", y.image(y.product(0, 1), 0), 7);
        Check.due("7 first by b, then by a", y.image(y.product(1, 0), 0), 4);
        Check.due("7 first by b, then by a from 1", y.image(y.product(1, 0), 1), 3);
        Check.refused("7 no point of it", OUTSIDE, () -> y.image(0, 3));
    }

    private static void lengthAndLetter() {
        Eggboxery x = Check.powers();
        for (int element = 0; element < 4; element++) {
            Check.due("8 a power", x.length(element), element + 1);
        }
        Eggboxery y = Check.steps();
        Check.due("8 aa", y.length(2), 2);
        Check.due("9 aa", y.letter(2, 0) * 10 + y.letter(2, 1), 0);
        Check.due("9 ab", y.letter(3, 0) * 10 + y.letter(3, 1), 1);
        Check.refused("9 behind it", OUTSIDE, () -> y.letter(3, 2));
        for (int none : NO_INDICES) {
            Check.refused("8 no element", OUTSIDE, () -> y.length(none));
            Check.refused("9 no element", OUTSIDE, () -> y.letter(none, 0));
            Check.refused("9 no index", OUTSIDE, () -> y.letter(0, none));
        }
        Check.refused("8 the next element", OUTSIDE, () -> y.length(4));
        Eggboxery twice = Check.maps(2, Check.g(1, 0), Check.g(1, 0), Check.g(0, 0));
        Check.due("9 of one twice the first", twice.letter(0, 0), 0);
        Check.due("9 the next one is another one", twice.letter(1, 0), 2);
        Check.due("8 both are of length 1", twice.length(0) * 10 + twice.length(1), 11);
        Eggboxery orders = Check.maps(3, Check.g(1, 2, 0), Check.g(1, 0, 2));
        int[] lengths = {1, 1, 2, 2, 2, 2};
        int[] words = {0, 1, 0, 1, 10, 11};
        for (int element = 0; element < 6; element++) {
            Check.due("8 an order of three", orders.length(element), lengths[element]);
            int word = orders.letter(element, 0);
            word = lengths[element] == 2 ? 10 * word + orders.letter(element, 1) : word;
            Check.due("9 an order of three", word, words[element]);
        }
    }

    private static void product() {
        Eggboxery x = Check.steps();
        Check.due("10 ab", x.product(0, 1), 3);
        Check.due("10 ba", x.product(1, 0), 2);
        Check.due("10 aa", x.product(0, 0), 2);
        Check.due("10 a ab", x.product(0, 3), 2);
        for (int none : new int[] {-1, 4, 200, Integer.MIN_VALUE, Integer.MAX_VALUE}) {
            Check.refused("10 no left one", OUTSIDE, () -> x.product(none, 0));
            Check.refused("10 no right one", OUTSIDE, () -> x.product(0, none));
        }
        Eggboxery y = Check.constants();
        Check.due("10 the last constant stays", y.product(0, 2), 2);
    }

    private static void power() {
        Eggboxery x = Check.powers();
        int[] due = {0, 1, 2, 3, 1, 2, 3, 1};
        for (int power = 1; power <= 8; power++) {
            Check.due("11 power " + power, x.power(0, power), due[power - 1]);
        }
        // 2147483647 is 1 more than a multiple of 3, as 4 is.
        Check.due("11 the greatest power", x.power(0, Integer.MAX_VALUE), 3);
        Check.due("11 a power of a power", x.power(1, 2), 3);
        for (int power : new int[] {0, -1, Integer.MIN_VALUE}) {
            Check.refused("11 no such power", ILLEGAL, () -> x.power(0, power));
            Check.refused("11 what is listed first", OUTSIDE, () -> x.power(4, power));
        }
        Check.refused("11 no element", OUTSIDE, () -> x.power(-1, 1));
    }

    private static void omegaIndexPeriod() {
        Eggboxery x = Check.powers();
        int[][] due = {{2, 2, 3}, {2, 1, 3}, {2, 1, 1}, {2, 1, 3}};
        for (int element = 0; element < 4; element++) {
            Check.due("12 omega", x.omega(element), due[element][0]);
            Check.due("13 index", x.index(element), due[element][1]);
            Check.due("14 period", x.period(element), due[element][2]);
        }
        Eggboxery longer = Check.maps(6, Check.g(1, 2, 3, 4, 5, 5));
        Check.due("12 a long tail", longer.omega(0), 4);
        Check.due("13 a long tail", longer.index(0), 5);
        Check.due("14 a long tail", longer.period(0), 1);
        Eggboxery turn = Check.maps(5, Check.g(1, 0, 3, 4, 2));
        Check.due("12 a turn", turn.omega(0), 5);
        Check.due("13 a turn", turn.index(0), 1);
        Check.due("14 a turn", turn.period(0), 6);
        for (int none : new int[] {-1, 4, 200, Integer.MIN_VALUE, Integer.MAX_VALUE}) {
            Check.refused("12 no element", OUTSIDE, () -> x.omega(none));
            Check.refused("13 no element", OUTSIDE, () -> x.index(none));
            Check.refused("14 no element", OUTSIDE, () -> x.period(none));
        }
    }

    private static void find() {
        Eggboxery x = Check.steps();
        Check.refused("15 an empty row", ILLEGAL, x::find);
        Check.row(x, 2, -1, -1);
        Check.due("15 ab", x.find(), 3);
        Check.due("15 it stays", x.find(), 3);
        Check.due("15 three numbers stay", x.wipe(), 3);
        Check.row(x, 0, 1, 2);
        Check.refused("15 no element", NONE, x::find);
        x.type(0);
        Check.refused("15 a long row", ILLEGAL, x::find);
        x.wipe();
        Check.row(x, 0, 1, 3);
        Check.refused("15 no point", ILLEGAL, x::find);
        Eggboxery y = Check.relations(2, Check.g(3, 0), Check.g(2, 1));
        Check.row(y, 0, 3);
        Check.due("15 a relation", y.image(y.find(), 1), 3);
        y.wipe();
        Check.row(y, 0, -1);
        Check.refused("15 no relation", ILLEGAL, y::find);
    }

    private static void word() {
        Eggboxery x = Check.steps();
        Check.refused("16 an empty row", ILLEGAL, x::word);
        Check.row(x, 0, 1);
        Check.due("16 ab", x.word(), 3);
        Check.due("16 two numbers stay", x.wipe(), 2);
        Check.row(x, 1);
        Check.due("16 b", x.word(), 1);
        x.type(0);
        Check.due("16 ba", x.word(), 2);
        x.type(2);
        Check.refused("16 no generator", ILLEGAL, x::word);
        x.wipe();
        x.type(-1);
        Check.refused("16 less than any generator", ILLEGAL, x::word);
        Eggboxery y = Check.powers();
        for (int count = 0; count < 20; count++) {
            y.type(0);
        }
        Check.due("16 twenty times", y.word(), 1);
        Eggboxery twice = Check.maps(2, Check.g(1, 0), Check.g(1, 0));
        Check.row(twice, 1);
        Check.due("16 one twice", twice.word(), 0);
    }

    private static void rules() {
        Check.due("17 aaaaa is aa", Check.powers().rules(), 1);
        Check.due("17 all maps of three points", Check.allMapsOfThree().rules(), 16);
        // ba, bb, aaa and aab, but not aba, bab or abb, whose parts are rules.
        Check.due("17 steps", Check.steps().rules(), 4);
        Check.due("17 each product of constants", Check.constants().rules(), 9);
        // The second one is a rule by itself, and all other words with it have it as a part.
        Check.due("17 one of them twice", Check.maps(2, Check.g(1, 0), Check.g(1, 0)).rules(), 2);
        Check.due("17 one alone", Check.maps(1, Check.g(0)).rules(), 1);
        Check.due("17 four times one alone", Check.maps(1, Check.g(0), Check.g(0), Check.g(0), Check.g(0)).rules(), 4);
    }
}
