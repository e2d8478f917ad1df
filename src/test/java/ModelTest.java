import java.util.function.Function;

/** All promises: runs of calls, drawn by a row of numbers that is always the same, on the program and on the model. */
public final class ModelTest {
    private static final int RUNS = 1200;
    /** Nothing is promised after the 512th call; a group of asks makes fewer than 60. */
    private static final int LAST_START = 450;
    private static long drawn = 20260101L;

    private final Eggboxery program = new Eggboxery();
    private final Model model = new Model();
    private final int run;
    private int calls = 0;

    private ModelTest(int number) {
        run = number;
    }

    public static void main(String[] args) {
        for (int number = 0; number < RUNS; number++) {
            new ModelTest(number).play();
        }
        Check.end();
    }

    private static int draw(int below) {
        drawn = drawn * 6364136223846793005L + 1442695040888963407L;
        return (int) ((drawn >>> 33) % below);
    }

    private static int drawFrom(int... some) {
        return some[draw(some.length)];
    }

    private static char drawFrom(String some) {
        return some.charAt(draw(some.length()));
    }

    private Object both(String call, Function<Eggboxery, Object> asked, Function<Model, Object> due) {
        calls++;
        Object want = Check.answerOf(() -> due.apply(model));
        Check.due("run " + run + ", call " + calls + ": " + call, Check.answerOf(() -> asked.apply(program)), want);
        return want;
    }

    private void play() {
        both("size()", x -> x.size(), m -> m.size());
        for (int part = 0; part < 2; part++) {
            make();
            int asks = 10 + draw(30 + part * 40);
            for (int ask = 0; ask < asks && calls < LAST_START; ask++) {
                ask();
            }
            both("isSound()", x -> x.isSound(), m -> m.isSound());
        }
    }

    // ---- Making ----

    private void make() {
        char kind = draw(3) == 0 ? 'r' : 't';
        int points = kind == 'r' ? drawFrom(1, 2, 2, 3, 3) : drawFrom(1, 2, 3, 3, 4, 4, 4, 5, 6);
        both("begin", x -> x.begin(kind, points), m -> m.begin(kind, points));
        both("wipe()", x -> x.wipe(), m -> m.wipe());
        int style = draw(4);
        int generators = 1 + draw(points > 4 ? 2 : 4);
        for (int number = 0; number < generators; number++) {
            makeGenerator(kind, points, style);
        }
        int size = sizeOrNone();
        both("size()", x -> x.size(), m -> m.size());
        if (size < 5 && draw(8) > 0 && calls < LAST_START - 200) {
            make();
        }
    }

    private int sizeOrNone() {
        Object size = Check.answerOf(() -> model.size());
        return size instanceof Integer ? (Integer) size : -1;
    }

    private void makeGenerator(char kind, int points, int style) {
        int onto = draw(points);
        for (int point = 0; point < points; point++) {
            int at = point;
            if (kind == 'r') {
                type(style == 0 ? 1 << draw(points) : draw(1 << points));
            } else if (style == 0) {
                type(draw(points));
            } else if (style == 1) {
                type(draw(points + 1) - 1);
            } else if (style == 2) {
                type((at + onto + 1) % points);
            } else {
                type(draw(3) == 0 ? Math.max(0, at - 1) : draw(6) == 0 ? -1 : at);
            }
        }
        both("generator()", x -> x.generator(), m -> m.generator());
    }

    private void type(int number) {
        both("type(" + number + ")", x -> x.type(number), m -> m.type(number));
    }

    private void sign(char sign) {
        both("sign(" + sign + ")", x -> x.sign(sign), m -> m.sign(sign));
    }

    // ---- Asking ----

    private int element() {
        int size = Math.max(1, sizeOrNone());
        int seldom = draw(40);
        return seldom == 0 ? -1 : seldom == 1 ? size : seldom == 2 ? Integer.MAX_VALUE : draw(size);
    }

    private void ask() {
        switch (draw(8)) {
            case 0 -> askWords();
            case 1 -> askLikeness();
            case 2 -> askBoxes();
            case 3 -> askCongruences();
            case 4 -> askTexts();
            case 5 -> askFreeWords();
            case 6 -> askPoints();
            default -> askRest();
        }
    }

    private void askWords() {
        int a = element();
        int b = element();
        int index = draw(6) - 1;
        int power = draw(5) == 0 ? drawFrom(Integer.MAX_VALUE, Integer.MIN_VALUE, 1 << 30, 999983) : draw(40) - 1;
        both("image " + a + " " + index, x -> x.image(a, index), m -> m.image(a, index));
        both("length " + a, x -> x.length(a), m -> m.length(a));
        both("letter " + a + " " + index, x -> x.letter(a, index), m -> m.letter(a, index));
        both("product " + a + " " + b, x -> x.product(a, b), m -> m.product(a, b));
        both("power " + a + " " + power, x -> x.power(a, power), m -> m.power(a, power));
        both("omega " + a, x -> x.omega(a), m -> m.omega(a));
        both("index " + a, x -> x.index(a), m -> m.index(a));
        both("period " + a, x -> x.period(a), m -> m.period(a));
        int numbers = draw(7);
        for (int count = 0; count < numbers; count++) {
            type(draw(9) == 0 ? draw(12) - 1 : draw(5));
        }
        both("find()", x -> x.find(), m -> m.find());
        both("word()", x -> x.word(), m -> m.word());
        both("accepts()", x -> x.accepts(), m -> m.accepts());
        if (draw(10) == 0) {
            both("generator()", x -> x.generator(), m -> m.generator());
        }
        if (draw(3) > 0) {
            both("wipe()", x -> x.wipe(), m -> m.wipe());
        }
    }

    private void askLikeness() {
        int a = element();
        int b = element();
        int index = draw(5) - 1;
        char by = drawFrom("RRLLHHJJD");
        both("classes " + by, x -> x.classes(by), m -> m.classes(by));
        both("classOf " + a + by, x -> x.classOf(a, by), m -> m.classOf(a, by));
        both("isBelow " + a + " " + b + by, x -> x.isBelow(a, b, by), m -> m.isBelow(a, b, by));
        both("inverses " + a, x -> x.inverses(a), m -> m.inverses(a));
        both("inverse " + a + " " + index, x -> x.inverse(a, index), m -> m.inverse(a, index));
        both("idempotents()", x -> x.idempotents(), m -> m.idempotents());
        both("idempotent " + index, x -> x.idempotent(index), m -> m.idempotent(index));
    }

    private void askBoxes() {
        int a = element();
        boolean areRows = draw(2) == 0;
        int column = draw(4) - draw(2);
        int row = draw(4) - draw(2);
        char what = drawFrom("iizzkkx");
        both("sides " + a + areRows, x -> x.sides(a, areRows), m -> m.sides(a, areRows));
        both("group " + a, x -> x.group(a), m -> m.group(a));
        both("meets " + a + " " + column + " " + row, x -> x.meets(a, column, row), m -> m.meets(a, column, row));
        both("height " + a, x -> x.height(a), m -> m.height(a));
        both("special " + what, x -> x.special(what), m -> m.special(what));
        both("units()", x -> x.units(), m -> m.units());
        if (draw(4) == 0) {
            both("weight()", x -> x.weight(), m -> m.weight());
            both("irreducibles()", x -> x.irreducibles(), m -> m.irreducibles());
        }
    }

    private void askCongruences() {
        int a = element();
        int b = element();
        int c = element();
        int d = element();
        if (draw(2) == 0) {
            both("merged " + a + " " + b, x -> x.merged(a, b), m -> m.merged(a, b));
            both("areMerged " + a + " " + b + " " + c + " " + d, x -> x.areMerged(a, b, c, d),
                    m -> m.areMerged(a, b, c, d));
        }
        if (draw(4) == 0) {
            both("congruences()", x -> x.congruences(), m -> m.congruences());
            both("parts()", x -> x.parts(), m -> m.parts());
            both("endomorphisms()", x -> x.endomorphisms(), m -> m.endomorphisms());
        }
    }

    private void askTexts() {
        both("wipe()", x -> x.wipe(), m -> m.wipe());
        typeSide(2);
        sign('=');
        typeSide(2);
        if (draw(5) == 0) {
            sign(drawFrom("xyz=^()ad*"));
        }
        both("fails()", x -> x.fails(), m -> m.fails());
        char kind = drawFrom("abcgijrlmnosvabcgijrlmnosvq");
        both("isA " + kind, x -> x.isA(kind), m -> m.isA(kind));
    }

    private void typeSide(int depth) {
        int factors = 1 + draw(3);
        for (int factor = 0; factor < factors; factor++) {
            if (depth > 0 && draw(4) == 0) {
                sign('(');
                typeSide(depth - 1);
                sign(draw(30) == 0 ? '(' : ')');
            } else {
                sign(drawFrom(draw(3) == 0 ? "xyz" : "xy"));
            }
            if (draw(3) == 0) {
                sign('^');
            }
        }
    }

    private void askFreeWords() {
        both("wipe()", x -> x.wipe(), m -> m.wipe());
        String letters = drawFrom(0, 1) == 0 ? "abc" : "abcd";
        StringBuilder left = new StringBuilder();
        int length = draw(8) + (draw(20) == 0 ? 0 : 1);
        for (int count = 0; count < length; count++) {
            left.append(drawFrom(letters));
        }
        String right = draw(3) == 0 ? squared(left.toString()) : moved(left.toString());
        right = draw(4) == 0 ? thinned(right) : right;
        for (char sign : (left + "=" + right).toCharArray()) {
            sign(sign);
        }
        for (char kind : "clpbx".toCharArray()) {
            both("areSame " + kind, x -> x.areSame(kind), m -> m.areSame(kind));
        }
    }

    /** Some part twice, or some part that was there twice once. */
    private static String squared(String word) {
        String made = word;
        for (int round = 0; round < 3 && made.length() < 12 && !made.isEmpty(); round++) {
            int from = draw(made.length());
            int to = from + 1 + draw(made.length() - from);
            made = made.substring(0, to) + made.substring(from);
        }
        return draw(4) == 0 ? made.replaceFirst("(.+)\\1", "$1") : made;
    }

    /** Some letter left out wherever it is, but for one place perhaps. */
    private static String thinned(String word) {
        char out = drawFrom("abcd");
        int kept = draw(12);
        StringBuilder made = new StringBuilder();
        for (int at = 0; at < word.length(); at++) {
            if (word.charAt(at) != out || at == kept) {
                made.append(word.charAt(at));
            }
        }
        return made.toString();
    }

    /** Some neighbours changed. */
    private static String moved(String word) {
        char[] letters = word.toCharArray();
        for (int round = draw(4); round > 0 && letters.length > 1; round--) {
            int at = draw(letters.length - 1);
            char kept = letters[at];
            letters[at] = letters[at + 1];
            letters[at + 1] = kept;
        }
        return new String(letters);
    }

    private void askPoints() {
        int points = draw(66) - 1;
        int few = points < 0 ? points : points & drawFrom(3, 7, 15, 63);
        int index = draw(4) - 1;
        int begin = draw(7) - 1;
        both("together " + few, x -> x.together(few), m -> m.together(few));
        both("togetherAt " + few + " " + index, x -> x.togetherAt(few, index), m -> m.togetherAt(few, index));
        both("automaton " + begin + " " + few, x -> x.automaton(begin, few), m -> m.automaton(begin, few));
        both("accepts()", x -> x.accepts(), m -> m.accepts());
        if (sizeOrNone() < 60 || draw(8) == 0) {
            both("syntactic()", x -> x.syntactic(), m -> m.syntactic());
            char kind = drawFrom("abcnabcnx");
            both("isLanguage " + kind, x -> x.isLanguage(kind), m -> m.isLanguage(kind));
        }
        if (draw(3) == 0) {
            both("imageSets()", x -> x.imageSets(), m -> m.imageSets());
            both("levels()", x -> x.levels(), m -> m.levels());
        }
    }

    private void askRest() {
        both("rules()", x -> x.rules(), m -> m.rules());
        both("checksum()", x -> x.checksum(), m -> m.checksum());
        both("regularShare()", x -> x.regularShare(), m -> m.regularShare());
        both("meanLength()", x -> x.meanLength(), m -> m.meanLength());
        int size = draw(30) == 0 ? 3 : draw(5);
        boolean areMirrors = draw(2) == 0;
        if (size != 3 || draw(10) == 0) {
            both("tables " + size + areMirrors, x -> x.tables(size, areMirrors), m -> m.tables(size, areMirrors));
        }
        if (draw(15) == 0) {
            char kind = drawFrom("trx");
            int points = draw(8);
            both("begin " + kind + points, x -> x.begin(kind, points), m -> m.begin(kind, points));
        }
    }
}
