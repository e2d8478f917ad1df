/**
 * A workshop told by what is done with a new one, so that like ones can be had as often as they are needed: what it
 * begins with, its generators, its automaton, and the row and the text that are typed then.
 */
final class Shop {
    private static final char NOT_BEGUN = ' ';

    final String name;
    final int points;
    private final char kind;
    private final int[][] generators;
    private int[] row = {};
    private String text = "";
    private int first = -1;
    private int ends = 0;

    private Shop(String called, char ofKind, int ofPoints, int[][] ofGenerators) {
        name = called;
        kind = ofKind;
        points = ofPoints;
        generators = ofGenerators;
    }

    /** A new object that nothing was done with. */
    static Shop untouched() {
        return new Shop("a new object", NOT_BEGUN, 1, new int[0][]);
    }

    static Shop maps(String called, int points, int[]... generators) {
        return new Shop(called, 't', points, generators);
    }

    static Shop relations(String called, int points, int[]... generators) {
        return new Shop(called, 'r', points, generators);
    }

    Shop withRow(int... numbers) {
        row = numbers;
        return this;
    }

    Shop withText(String signs) {
        text = signs;
        return this;
    }

    Shop withAutomaton(int begin, int ofEnds) {
        first = begin;
        ends = ofEnds;
        return this;
    }

    boolean isOfMaps() {
        return kind != 'r';
    }

    Eggboxery make() {
        Eggboxery made = new Eggboxery();
        if (kind != NOT_BEGUN) {
            made.begin(kind, points);
        }
        for (int[] generator : generators) {
            Check.add(made, generator);
        }
        if (first >= 0) {
            made.automaton(first, ends);
        }
        Check.row(made, row);
        for (char sign : text.toCharArray()) {
            made.sign(sign);
        }
        return made;
    }

    /** The same with the slow and plain model of the document. */
    Model model() {
        Model made = new Model();
        if (kind != NOT_BEGUN) {
            made.begin(kind, points);
        }
        for (int[] generator : generators) {
            for (int number : generator) {
                made.type(number);
            }
            made.generator();
        }
        if (first >= 0) {
            made.automaton(first, ends);
        }
        for (int number : row) {
            made.type(number);
        }
        for (char sign : text.toCharArray()) {
            made.sign(sign);
        }
        return made;
    }
}
