/** Promises 50 to 54. */
public final class SumsTest {
    private static final String ILLEGAL = "IllegalArgumentException";
    private static final String UNSUPPORTED = "UnsupportedOperationException";

    public static void main(String[] args) {
        tables();
        checksum();
        regularShare();
        meanLength();
        isSound();
        Check.end();
    }

    private static void tables() {
        Eggboxery x = new Eggboxery();
        int[] due = {1, 5, 24};
        int[] dueWithMirrors = {1, 4, 18};
        for (int round = 0; round < 2; round++) {
            for (int size = 1; size <= 3; size++) {
                Check.due("50 tables of " + size, x.tables(size, false), due[size - 1]);
                Check.due("50 with mirrors of " + size, x.tables(size, true), dueWithMirrors[size - 1]);
            }
        }
        for (int none : new int[] {0, -1, 4, Integer.MIN_VALUE, Integer.MAX_VALUE}) {
            Check.refused("50 no size", ILLEGAL, () -> x.tables(none, false));
            Check.refused("50 no size with mirrors", ILLEGAL, () -> x.tables(none, true));
        }
    }

    private static void checksum() {
        Check.due("51 one", Check.maps(1, Check.g(0)).checksum(), 217L);
        // 0 1 1 0 are products of a swap, numbered 0, and of what leaves all, 1: 00 is 1, 01 is 0, 10 is 0, 11 is 1.
        Check.due("51 a swap", Check.maps(2, Check.g(1, 0)).checksum(), 7L * 923521 + 29791 + 1);
        Eggboxery x = Check.constants();
        long due = 7;
        for (int left = 0; left < 3; left++) {
            for (int right = 0; right < 3; right++) {
                due = due * 31 + right;
            }
        }
        Check.due("51 constants: the left element comes first", x.checksum(), due);
        long wrapped = 7;
        for (int left = 0; left < 27; left++) {
            // 27 by 27 are more calls than one object is good for.
            Eggboxery y = Check.allMapsOfThree();
            for (int right = 0; right < 27; right++) {
                wrapped = wrapped * 31 + y.product(left, right);
            }
        }
        Check.due("51 it wraps", Check.allMapsOfThree().checksum(), wrapped);
        Check.refused("51 not all is known", UNSUPPORTED, () -> new Eggboxery().checksum());
        Check.refused("51 too many", UNSUPPORTED, () -> Check.tooMany().checksum());
    }

    private static void regularShare() {
        Check.due("52 each", Check.allMapsOfThree().regularShare(), 1.0f);
        Check.due("52 one of four", Check.steps().regularShare(), 0.25f);
        Check.due("52 three of four", Check.powers().regularShare(), 0.75f);
        Check.due("52 one of three", Check.maps(4, Check.g(1, 2, 3, -1)).regularShare(), 0.25f);
        Check.due("52 one third", Check.maps(3, Check.g(1, 2, -1)).regularShare(), 1.0f / 3.0f);
        Check.refused("52 not all is known", UNSUPPORTED, () -> new Eggboxery().regularShare());
        Check.refused("52 too many", UNSUPPORTED, () -> Check.tooMany().regularShare());
    }

    private static void meanLength() {
        Check.due("53 one", Check.maps(1, Check.g(0)).meanLength(), 1.0);
        Check.due("53 steps", Check.steps().meanLength(), 1.5);
        Check.due("53 orders of three", Check.maps(3, Check.g(1, 2, 0), Check.g(1, 0, 2)).meanLength(), 10.0 / 6.0);
        Check.due("53 powers", Check.powers().meanLength(), 2.5);
        Check.refused("53 not all is known", UNSUPPORTED, () -> new Eggboxery().meanLength());
        Check.refused("53 too many", UNSUPPORTED, () -> Check.tooMany().meanLength());
    }

    private static void isSound() {
        Check.due("54 nothing is known", new Eggboxery().isSound(), true);
        Check.due("54 too many", Check.tooMany().isSound(), true);
        Check.due("54 all maps of three points", Check.allMapsOfThree().isSound(), true);
        Check.due("54 orders", Check.ordersOfFour().isSound(), true);
        Check.due("54 steps", Check.steps().isSound(), true);
        Check.due("54 relations", Check.relations(2, Check.g(2, 1), Check.g(1, 3), Check.g(1, 0), Check.g(3, 3))
                .isSound(), true);
        Check.due("54 two hundred", Check.maps(6, Check.g(-1, 1, -1, 1, 5, 3), Check.g(-1, 2, 4, 3, 2, 0),
                Check.g(1, 3, 5, 1, -1, 1)).isSound(), true);
    }
}
