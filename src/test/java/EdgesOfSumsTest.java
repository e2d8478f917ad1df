/** The bounds of promises 50 to 54, and of what 'Tables' says: just inside, at them, just beyond. */
public final class EdgesOfSumsTest {
    private static final String ILLEGAL = "IllegalArgumentException";
    private static final String UNSUPPORTED = "UnsupportedOperationException";
    private static final int[] STAY = {0, 1, 2, 3, 4, 5};
    private static final int[] TO_NONE = {-1, -1, -1, -1, -1, -1};

    public static void main(String[] args) {
        promise50Sizes();
        promise50LeavesTheRest();
        promise51OneAndTwoHundred();
        promise52NoneAndAll();
        promise52Rounding();
        promise53LeastAndGreatest();
        promise53Rounding();
        promise54NothingKnown();
        promise54OneAndTwoHundred();
        promises51To54BeyondTwoHundred();
        Check.end();
    }

    private static Shop one() {
        return Shop.maps("one", 1, Check.g(0));
    }

    private static Shop chain() {
        return Shop.maps("chain", 6, Check.g(1, 2, 3, 4, 5, -1));
    }

    private static Shop twoHundred() {
        return Shop.maps("200", 6, Check.g(1, 3, 5, 4, 0, 0), Check.g(1, 5, 3, 2, 5, 5), STAY);
    }

    // ---- 50: "1 to 3"; "whether mirrors count as alike" ----

    private static void promise50Sizes() {
        int[] due = {1, 5, 24};
        int[] dueWithMirrors = {1, 4, 18};
        for (int size = 1; size <= 3; size++) {
            Check.due("50 of " + size, new Eggboxery().tables(size, false), due[size - 1]);
            Check.due("50 with mirrors of " + size, new Eggboxery().tables(size, true), dueWithMirrors[size - 1]);
        }
        for (int none : new int[] {0, 4, -1, 5, Integer.MIN_VALUE, Integer.MAX_VALUE}) {
            Check.refused("50 of " + none, ILLEGAL, () -> new Eggboxery().tables(none, false));
            Check.refused("50 with mirrors of " + none, ILLEGAL, () -> new Eggboxery().tables(none, true));
        }
    }

    private static void promise50LeavesTheRest() {
        Eggboxery x = chain().withRow(0, 0).withText("x=x").withAutomaton(1, 2).make();
        for (int round = 0; round < 2; round++) {
            Check.due("50 the greatest one ahead", x.tables(3, true), 18);
            Check.due("50 the least one behind", x.tables(1, false), 1);
            Check.due("50 the elements stay", x.size(), 6);
        }
        Check.due("50 the automaton stays", x.automaton(0, 0), 102);
        Check.due("50 the row and the text stay", x.wipe(), 5);
    }

    // ---- 51: "7 at first, then for each left element, and each right one, 31 times itself plus the product" ----

    private static void promise51OneAndTwoHundred() {
        Check.due("51 one", one().make().checksum(), 7L * 31);
        Check.due("51 two that stay", Check.maps(1, Check.g(0), Check.g(-1)).checksum(),
                (((7L * 31) * 31 + 1) * 31 + 1) * 31 + 1);
        Check.due("51 six", chain().make().checksum(), chain().model().checksum());
        Check.due("51 of 200 it wraps", twoHundred().make().checksum(), twoHundred().model().checksum());
    }

    // ---- 52: "their number divided by that of all, both converted to float" ----

    private static void promise52NoneAndAll() {
        Check.due("52 one", one().make().regularShare(), 1.0f);
        Check.due("52 all", Check.ordersOfFour().regularShare(), 1.0f);
        Check.due("52 one of six", chain().make().regularShare(), 1.0f / 6.0f);
    }

    private static void promise52Rounding() {
        Shop most = twoHundred();
        Check.due("52 of 200", most.make().regularShare(), most.model().regularShare());
        Check.due("52 one of three", Check.maps(3, Check.g(1, 2, -1)).regularShare(), 1.0f / 3.0f);
        Shop odd = Shop.maps("199", 6, Check.g(1, 3, 5, 4, 0, 0), Check.g(1, 5, 3, 2, 5, 5));
        Check.due("52 of 199", odd.make().regularShare(), odd.model().regularShare());
    }

    // ---- 53: "the sum divided by their number, both converted to double" ----

    private static void promise53LeastAndGreatest() {
        Check.due("53 one", one().make().meanLength(), 1.0);
        Check.due("53 all of length 1", Check.constants().meanLength(), 1.0);
        Check.due("53 1 to 6", chain().make().meanLength(), 3.5);
        Check.due("53 1 to 6 around", Check.maps(6, Check.g(1, 2, 3, 4, 5, 0)).meanLength(), 3.5);
    }

    private static void promise53Rounding() {
        Check.due("53 ten by six", Check.maps(3, Check.g(1, 2, 0), Check.g(1, 0, 2)).meanLength(), 10.0 / 6.0);
        Shop most = twoHundred();
        Check.due("53 of 200", most.make().meanLength(), most.model().meanLength());
    }

    // ---- 54: "if all is known, ..": else there is nothing that may not hold ----

    private static void promise54NothingKnown() {
        Check.due("54 a new object", new Eggboxery().isSound(), true);
        Check.due("54 no relations", Check.relations(3).isSound(), true);
        Check.due("54 too many", Check.tooMany().isSound(), true);
        Eggboxery x = chain().withRow(9, 9).withText("))((").make();
        Check.due("54 whatever is typed", x.isSound(), true);
        Check.due("54 it changes nothing", x.wipe(), 6);
    }

    private static void promise54OneAndTwoHundred() {
        Check.due("54 one", one().make().isSound(), true);
        Check.due("54 two", Check.maps(1, Check.g(0), Check.g(-1)).isSound(), true);
        Check.due("54 six", chain().make().isSound(), true);
        Check.due("54 of 200", twoHundred().make().isSound(), true);
        Check.due("54 one relation", Check.relations(1, Check.g(0)).isSound(), true);
        Check.due("54 four like ones", Check.maps(2, Check.g(1, 0), Check.g(1, 0), Check.g(1, 0), Check.g(1, 0))
                .isSound(), true);
    }

    private static void promises51To54BeyondTwoHundred() {
        Eggboxery x = twoHundred().make();
        Check.add(x, TO_NONE);
        Check.refused("51 of 201", UNSUPPORTED, x::checksum);
        Check.refused("52 of 201", UNSUPPORTED, x::regularShare);
        Check.refused("53 of 201", UNSUPPORTED, x::meanLength);
        Check.due("54 of 201", x.isSound(), true);
        Check.refused("6 of 201, as before", UNSUPPORTED, x::size);
    }
}
