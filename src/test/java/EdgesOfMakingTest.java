/** The bounds of promises 1 to 5, and of what 'Things' says: just inside, at them, just beyond. */
public final class EdgesOfMakingTest {
    private static final String ILLEGAL = "IllegalArgumentException";
    private static final String STATE = "IllegalStateException";
    private static final String UNSUPPORTED = "UnsupportedOperationException";

    public static void main(String[] args) {
        promise1MapsOnOnePoint();
        promise1WithoutGenerators();
        promise2Kinds();
        promise2PointsOfMaps();
        promise2PointsOfRelations();
        promise2ReturnsGenerators();
        promise2AutomatonAsAtFirst();
        promise2RowAndTextStay();
        promise3Numbers();
        promise3FullRow();
        promise3RowIsFreeAgain();
        promise4Nothing();
        promise4NumbersAlone();
        promise4SignsAlone();
        promise4AllFull();
        promise4LeavesTheRest();
        promise5ImagesOfMaps();
        promise5BitsOfRelations();
        promise5LengthsOfRows();
        promise5FourGenerators();
        promise5OneOfThemTwice();
        promise5RowIsEmptyThen();
        promises1To54TheLastCall();
        Check.end();
    }

    /** Types a row into a new object of these things and asks for a generator. */
    private static Object generatorOf(char kind, int points, int... row) {
        Eggboxery x = new Eggboxery();
        x.begin(kind, points);
        Check.row(x, row);
        return Check.answerOf(x::generator);
    }

    private static int[] rowOf(int points, int number) {
        int[] row = new int[points];
        java.util.Arrays.fill(row, number);
        return row;
    }

    // ---- 1: "a workshop of maps on one point, without generators" ----

    private static void promise1MapsOnOnePoint() {
        int[] taken = {-1, 0};
        for (int number : taken) {
            Eggboxery x = new Eggboxery();
            x.type(number);
            Check.due("1 one point leads to " + number, x.generator(), 0);
            Check.due("1 its image", x.image(0, 0), number);
        }
        for (int number = 1; number <= 9; number++) {
            Eggboxery x = new Eggboxery();
            x.type(number);
            Check.refused("1 there is no point " + number, ILLEGAL, x::generator);
        }
        Eggboxery two = new Eggboxery();
        Check.row(two, 0, 0);
        Check.refused("1 there is no second point", ILLEGAL, two::generator);
        Eggboxery x = new Eggboxery();
        Check.due("1 the automaton has one point", x.automaton(0, 1), 0);
        Check.refused("1 no second one to begin", ILLEGAL, () -> x.automaton(1, 1));
        Check.refused("1 no second one to end", ILLEGAL, () -> x.automaton(0, 2));
    }

    private static void promise1WithoutGenerators() {
        Eggboxery x = new Eggboxery();
        Check.refused("1 not all is known", UNSUPPORTED, x::size);
        Check.due("1 the row and the text are empty", x.wipe(), 0);
        Check.due("1 no generators", x.begin('t', 1), 0);
        Check.due("1 no number is typed", new Eggboxery().type(0), 1);
        Check.due("1 no sign is typed", new Eggboxery().sign('a'), 1);
    }

    // ---- 2: "kind: 't' or 'r'"; "points: how many points, 1 to 6, of r to 3" ----

    private static void promise2Kinds() {
        Eggboxery x = new Eggboxery();
        for (int kind = 0; kind < 256; kind++) {
            char asked = (char) kind;
            Object due = asked == 't' || asked == 'r' ? (Object) 0 : "throws." + ILLEGAL;
            Check.due("2 kind " + kind, Check.answerOf(() -> x.begin(asked, 1)), due);
        }
        Check.refused("2 the greatest sign", ILLEGAL, () -> x.begin((char) 65535, 1));
    }

    private static void promise2PointsOfMaps() {
        for (int points = 1; points <= 6; points++) {
            Eggboxery x = new Eggboxery();
            Check.due("2 maps on " + points, x.begin('t', points), 0);
            Check.row(x, rowOf(points, points - 1));
            Check.due("2 all to the last of " + points, x.generator(), 0);
            Check.due("2 the last point", x.image(0, points - 1), points - 1);
        }
        for (int points : new int[] {0, 7, -1, 8, Integer.MIN_VALUE, Integer.MAX_VALUE}) {
            Check.refused("2 maps on " + points, ILLEGAL, () -> new Eggboxery().begin('t', points));
        }
    }

    private static void promise2PointsOfRelations() {
        for (int points = 1; points <= 3; points++) {
            Eggboxery x = new Eggboxery();
            Check.due("2 relations on " + points, x.begin('r', points), 0);
            Check.row(x, rowOf(points, (1 << points) - 1));
            Check.due("2 all to all of " + points, x.generator(), 0);
            Check.due("2 the last point", x.image(0, points - 1), (1 << points) - 1);
        }
        for (int points : new int[] {0, 4, -1, 5, 6, 7, Integer.MIN_VALUE, Integer.MAX_VALUE}) {
            Check.refused("2 relations on " + points, ILLEGAL, () -> new Eggboxery().begin('r', points));
        }
    }

    /** "Returns how many generators there were." */
    private static void promise2ReturnsGenerators() {
        for (int generators = 0; generators <= 4; generators++) {
            Eggboxery x = new Eggboxery();
            for (int number = 0; number < generators; number++) {
                Check.add(x, 0);
            }
            Check.due("2 there were " + generators, x.begin('r', 1), generators);
            Check.due("2 and none then", x.begin('t', 1), 0);
            Check.refused("2 without generators", UNSUPPORTED, x::size);
        }
        Eggboxery same = Check.constants();
        Check.due("2 the very same things", same.begin('t', 3), 3);
        Check.refused("2 are begun anew too", UNSUPPORTED, same::size);
        Eggboxery many = Check.tooMany();
        many.begin('t', 1);
        Check.add(many, 0);
        Check.due("2 all is known after there were too many", many.size(), 1);
    }

    private static void promise2AutomatonAsAtFirst() {
        Eggboxery x = Check.maps(6, Check.g(0, 0, 0, 0, 0, 0));
        x.automaton(5, 63);
        x.begin('t', 6);
        Check.due("2 0 to begin, none to end", x.automaton(5, 63), 0);
        x.begin('r', 3);
        x.begin('t', 6);
        Check.due("2 and by way of relations", x.automaton(0, 0), 0);
    }

    private static void promise2RowAndTextStay() {
        Eggboxery x = new Eggboxery();
        Check.text(x, "ab=ba");
        Check.row(x, 1, 0);
        x.begin('t', 2);
        Check.due("2 the text stays", x.areSame('c'), true);
        Check.due("2 the row stays", x.generator(), 0);
        Check.due("2 five signs", x.wipe(), 5);
    }

    // ---- 3: "the number, -1 to 9"; "if it has 20" ----

    private static void promise3Numbers() {
        Eggboxery x = new Eggboxery();
        int count = 0;
        for (int number = -1; number <= 9; number++) {
            count++;
            Check.due("3 type " + number, x.type(number), count);
        }
        for (int number : new int[] {-2, 10, -3, 11, Integer.MIN_VALUE, Integer.MAX_VALUE}) {
            Check.refused("3 type " + number, ILLEGAL, () -> x.type(number));
        }
        Check.due("3 eleven were taken", x.wipe(), 11);
    }

    private static void promise3FullRow() {
        Eggboxery x = new Eggboxery();
        for (int count = 1; count <= 20; count++) {
            Check.due("3 there is room for the number " + count, x.type(9), count);
        }
        Check.refused("3 there is none for 21", STATE, () -> x.type(9));
        Check.refused("3 nor for -1", STATE, () -> x.type(-1));
        Check.refused("3 what is listed first", ILLEGAL, () -> x.type(10));
        Check.refused("3 what is listed first", ILLEGAL, () -> x.type(-2));
        Check.due("3 the text has room of its own", x.sign('x'), 1);
        Check.due("3 twenty and one", x.wipe(), 21);
        Eggboxery y = new Eggboxery();
        Check.text(y, "xxxxxxxxxxxxxxxxxxxxxxxx");
        Check.due("3 a full text takes none of it", y.type(0), 1);
    }

    private static void promise3RowIsFreeAgain() {
        Eggboxery x = new Eggboxery();
        for (int round = 0; round < 2; round++) {
            for (int count = 1; count <= 20; count++) {
                Check.due("3 type", x.type(0), count);
            }
            x.wipe();
        }
        Check.due("3 one is a map", x.type(0), 1);
        x.generator();
        Check.due("3 the row is empty behind a generator", x.type(0), 1);
    }

    // ---- 4: "Returns how many numbers and signs there were." ----

    private static void promise4Nothing() {
        Eggboxery x = new Eggboxery();
        Check.due("4 nothing", x.wipe(), 0);
        Check.due("4 nothing again", x.wipe(), 0);
    }

    private static void promise4NumbersAlone() {
        Eggboxery x = new Eggboxery();
        x.type(-1);
        Check.due("4 one number", x.wipe(), 1);
        Check.row(x, 0, 1, 2);
        Check.due("4 three numbers", x.wipe(), 3);
        Check.due("4 the next one is the first", x.type(0), 1);
    }

    private static void promise4SignsAlone() {
        Eggboxery x = new Eggboxery();
        x.sign('(');
        Check.due("4 one sign", x.wipe(), 1);
        x.sign('a');
        x.sign('=');
        Check.due("4 two signs", x.wipe(), 2);
        Check.due("4 the next one is the first", x.sign('a'), 1);
        x.sign('=');
        Check.due("4 what was ahead is gone", x.sign('a'), 3);
        Check.due("4 so that both sides are one letter", x.areSame('c'), true);
    }

    private static void promise4AllFull() {
        Eggboxery x = new Eggboxery();
        for (int count = 0; count < 20; count++) {
            x.type(count % 10);
        }
        for (int count = 0; count < 24; count++) {
            x.sign('=');
        }
        Check.due("4 twenty and twenty-four", x.wipe(), 44);
        Check.due("4 nothing then", x.wipe(), 0);
        Check.due("4 room for numbers", x.type(0), 1);
        Check.due("4 room for signs", x.sign('x'), 1);
    }

    private static void promise4LeavesTheRest() {
        Eggboxery x = Check.steps();
        x.automaton(1, 6);
        Check.row(x, 0, 0);
        x.wipe();
        Check.due("4 the elements stay", x.size(), 4);
        Check.due("4 the automaton stays", x.automaton(0, 0), 106);
        Check.due("4 the generators stay", x.begin('t', 3), 2);
    }

    // ---- 5 and 'Things': "has for each point a point, or none, -1"; "as bits" ----

    private static void promise5ImagesOfMaps() {
        for (int points = 1; points <= 6; points++) {
            for (int at = 0; at < points; at++) {
                for (int number = -1; number <= 9; number++) {
                    int[] row = rowOf(points, 0);
                    row[at] = number;
                    Object due = number < points ? (Object) 0 : "throws." + ILLEGAL;
                    Check.due("5 of " + points + ", " + at + " to " + number, generatorOf('t', points, row), due);
                }
            }
        }
    }

    private static void promise5BitsOfRelations() {
        for (int points = 1; points <= 3; points++) {
            for (int at = 0; at < points; at++) {
                for (int number = -1; number <= 9; number++) {
                    int[] row = rowOf(points, 0);
                    row[at] = number;
                    Object due = number >= 0 && number < 1 << points ? (Object) 0 : "throws." + ILLEGAL;
                    Check.due("5 of " + points + ", " + at + " to bits " + number, generatorOf('r', points, row), due);
                }
            }
        }
    }

    /** "the thing that was typed, point by point": a row of another length is none. */
    private static void promise5LengthsOfRows() {
        for (int points = 1; points <= 6; points++) {
            for (int length = 0; length <= 20; length++) {
                Object due = length == points ? (Object) 0 : "throws." + ILLEGAL;
                Check.due("5 a map on " + points + " by " + length, generatorOf('t', points, rowOf(length, 0)), due);
                if (points <= 3) {
                    Check.due("5 a relation on " + points + " by " + length,
                            generatorOf('r', points, rowOf(length, 1)), due);
                }
            }
        }
    }

    /** "At most 4 generators are numbered from 0"; "if there are 4". */
    private static void promise5FourGenerators() {
        for (char kind : new char[] {'t', 'r'}) {
            Eggboxery x = new Eggboxery();
            x.begin(kind, 2);
            for (int number = 0; number < 4; number++) {
                Check.row(x, number / 2, number % 2);
                Check.due("5 the number " + number, x.generator(), number);
            }
            Check.row(x, 1, 1);
            Check.refused("5 a fifth one", STATE, x::generator);
            Check.due("5 its row stays", x.wipe(), 2);
            Check.refused("5 an empty row is listed first", ILLEGAL, x::generator);
            Check.row(x, 1);
            Check.refused("5 a short row is listed first", ILLEGAL, x::generator);
            Check.row(x, 9);
            Check.refused("5 what is no thing is listed first", ILLEGAL, x::generator);
            x.wipe();
            x.begin(kind, 2);
            Check.row(x, 1, 1);
            Check.due("5 begun anew", x.generator(), 0);
        }
    }

    /** "perhaps one of them twice". */
    private static void promise5OneOfThemTwice() {
        Eggboxery x = new Eggboxery();
        x.begin('t', 2);
        for (int number = 0; number < 4; number++) {
            Check.row(x, 1, 0);
            Check.due("5 each the same one", x.generator(), number);
        }
        Check.due("5 two elements", x.size(), 2);
        Check.row(x, 3, 2, 1);
        Check.due("5 each of them makes the same element", x.word(), 0);
    }

    /** "the row is empty then". */
    private static void promise5RowIsEmptyThen() {
        Eggboxery x = new Eggboxery();
        x.begin('t', 2);
        x.sign('x');
        Check.row(x, 1, 0);
        x.generator();
        Check.due("5 one number, the first of a new row", x.type(0), 1);
        Check.due("5 and the sign", x.wipe(), 2);
        Check.refused("5 an empty row is no second one", ILLEGAL, x::generator);
    }

    // ---- "An object is used for at most 512 calls after it has been made" ----

    private static void promises1To54TheLastCall() {
        for (int last = 0; last < 4; last++) {
            Eggboxery x = Check.steps();
            // Making took nine calls.
            for (int call = 10; call < 512; call++) {
                Check.due("6 the call " + call, x.size(), 4);
            }
            Object answer = last == 0 ? x.checksum() : last == 1 ? (Object) x.type(9) : last == 2
                    ? Check.answerOf(() -> x.length(4)) : Check.answerOf(() -> x.begin('r', 4));
            Object due = last == 0 ? Check.steps().checksum() : last == 1 ? (Object) 1 : last == 2
                    ? "throws.IndexOutOfBoundsException" : "throws." + ILLEGAL;
            Check.due("1 to 54, the call 512", answer, due);
        }
    }
}
