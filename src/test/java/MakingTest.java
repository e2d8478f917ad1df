/** Promises 1 to 5. */
public final class MakingTest {
    private static final String ILLEGAL = "IllegalArgumentException";
    private static final String STATE = "IllegalStateException";
    private static final String UNSUPPORTED = "UnsupportedOperationException";

    public static void main(String[] args) {
        aNewObject();
        begin();
        type();
        wipe();
        generator();
        Check.end();
    }

    private static void aNewObject() {
        Eggboxery x = new Eggboxery();
        Check.refused("1 size", UNSUPPORTED, x::size);
        Check.due("1 wipe", x.wipe(), 0);
        Check.due("1 automaton", x.automaton(0, 1), 0);
        x.type(0);
        Check.due("1 a map on one point", x.generator(), 0);
        Check.due("1 size", x.size(), 1);
        Eggboxery y = new Eggboxery();
        y.type(-1);
        Check.due("1 no map on one point", y.generator(), 0);
        Check.due("1 begin", y.begin('t', 1), 1);
        Eggboxery z = new Eggboxery();
        Check.row(z, 0, 0);
        Check.refused("1 two points", ILLEGAL, z::generator);
        z.wipe();
        z.type(1);
        Check.refused("1 a second point", ILLEGAL, z::generator);
    }

    private static void begin() {
        Eggboxery x = Check.allMapsOfThree();
        x.automaton(2, 5);
        for (char kind : new char[] {'s', 'T', 'R', ' ', (char) 0, (char) 65535}) {
            Check.refused("2 begin " + (int) kind, ILLEGAL, () -> x.begin(kind, 1));
        }
        for (int points : new int[] {0, -1, 7, Integer.MIN_VALUE, Integer.MAX_VALUE}) {
            Check.refused("2 begin t " + points, ILLEGAL, () -> x.begin('t', points));
        }
        for (int points : new int[] {0, -1, 4, 6, Integer.MIN_VALUE, Integer.MAX_VALUE}) {
            Check.refused("2 begin r " + points, ILLEGAL, () -> x.begin('r', points));
        }
        Check.due("2 nothing is changed by what throws", x.size(), 27);
        Check.due("2 begin", x.begin('t', 6), 3);
        Check.refused("2 size", UNSUPPORTED, x::size);
        Check.due("2 the automaton is as at first", x.automaton(5, 63), 0);
        Check.due("2 begin again", x.begin('t', 6), 0);
        Check.due("2 the automaton is as at first again", x.automaton(5, 0), 0);
        Check.add(x, 0, 1, 2, 3, 4, 5);
        Check.due("2 begin r", x.begin('r', 3), 1);
        Check.add(x, 7, 0, 3);
        Check.due("2 back to maps", x.begin('t', 1), 1);
        Check.due("2 and their automaton", x.automaton(0, 1), 0);
        Eggboxery y = new Eggboxery();
        Check.row(y, 0, 1);
        Check.text(y, "x=x");
        Check.row(y, 0, 1);
        y.begin('t', 2);
        Check.due("2 the row and the text stay", y.wipe(), 5);
    }

    private static void type() {
        Eggboxery x = new Eggboxery();
        for (int number : new int[] {-2, 10, Integer.MIN_VALUE, Integer.MAX_VALUE}) {
            Check.refused("3 type " + number, ILLEGAL, () -> x.type(number));
        }
        for (int count = 1; count <= 20; count++) {
            Check.due("3 type", x.type(count % 11 - 1), count);
        }
        Check.refused("3 type into a full row", STATE, () -> x.type(0));
        Check.refused("3 what is listed first", ILLEGAL, () -> x.type(10));
        Check.due("3 twenty are in the row", x.wipe(), 20);
        Check.due("3 and then none", x.type(9), 1);
    }

    private static void wipe() {
        Eggboxery x = new Eggboxery();
        Check.row(x, 1, 2, 3);
        x.sign('x');
        x.sign('=');
        Check.due("4 wipe", x.wipe(), 5);
        Check.due("4 wipe again", x.wipe(), 0);
        Check.due("4 type", x.type(1), 1);
        Check.due("4 sign", x.sign('x'), 1);
        Eggboxery y = Check.allMapsOfThree();
        y.automaton(1, 2);
        y.wipe();
        Check.due("4 the elements stay", y.size(), 27);
        Check.due("4 the automaton stays", y.automaton(0, 0), 102);
    }

    private static void generator() {
        Eggboxery x = new Eggboxery();
        x.begin('t', 2);
        Check.refused("5 an empty row", ILLEGAL, x::generator);
        x.type(0);
        Check.refused("5 a short row", ILLEGAL, x::generator);
        x.type(2);
        Check.refused("5 a point that is none", ILLEGAL, x::generator);
        Check.due("5 the row stays", x.wipe(), 2);
        Check.row(x, 0, 1, 0);
        Check.refused("5 a long row", ILLEGAL, x::generator);
        x.wipe();
        x.sign('x');
        Check.due("5 the first one", Check.add(x, 1, 0), 0);
        Check.due("5 the row is empty then, the text stays", x.wipe(), 1);
        Check.due("5 size", x.size(), 2);
        Check.due("5 the second one", Check.add(x, -1, -1), 1);
        Check.due("5 size with the second one", x.size(), 3);
        Check.due("5 one of them twice", Check.add(x, 1, 0), 2);
        Check.due("5 size with it twice", x.size(), 3);
        Check.due("5 the fourth one", Check.add(x, 0, 0), 3);
        Check.row(x, 0, 2);
        Check.refused("5 what is listed first", ILLEGAL, x::generator);
        x.wipe();
        Check.row(x, 0, 1);
        Check.refused("5 a fifth one", STATE, x::generator);
        Check.due("5 its row stays", x.wipe(), 2);
        Check.due("5 four stay", x.begin('r', 3), 4);
        relation(x);
    }

    private static void relation(Eggboxery x) {
        Check.row(x, 8, 0, 0);
        Check.refused("5 points that are none", ILLEGAL, x::generator);
        x.wipe();
        Check.row(x, -1, 0, 0);
        Check.refused("5 less than no points", ILLEGAL, x::generator);
        x.wipe();
        Check.due("5 a relation", Check.add(x, 7, 0, 7), 0);
        Check.due("5 its images", x.image(0, 0) * 100 + x.image(0, 1) * 10 + x.image(0, 2), 707);
        x.begin('r', 1);
        Check.row(x, 2);
        Check.refused("5 one point has one bit", ILLEGAL, x::generator);
        x.wipe();
        Check.due("5 one point", Check.add(x, 1), 0);
    }
}
