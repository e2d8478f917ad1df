import java.util.Arrays;
import java.util.NoSuchElementException;

/** A workshop of finite semigroups. The document numbers what each call promises. */
public final class Eggboxery {
    private static final int MOST_ELEMENTS = 200;
    private static final int MOST_GENERATORS = 4;
    private static final int MOST_POINTS_OF_MAPS = 6;
    private static final int MOST_POINTS_OF_RELATIONS = 3;
    private static final int MOST_NUMBERS = 20;
    private static final int MOST_SIGNS = 24;

    private final Typed typed;
    private final Things things;
    private final Elements elements;
    private final Boxes boxes;
    private final Kinds kinds;
    private final Counts counts;
    private final Equation equation;
    private final FreeWords freeWords;
    private final Language ofAutomaton;
    private final PointSets pointSets;
    private final Tables smallTables;

    public Eggboxery() {
        typed = new Typed();
        things = new Things();
        elements = new Elements(things);
        boxes = new Boxes(elements);
        kinds = new Kinds(elements, boxes);
        counts = new Counts(elements);
        equation = new Equation(typed, elements);
        freeWords = new FreeWords(typed);
        ofAutomaton = new Language(things, elements);
        pointSets = new PointSets(things);
        smallTables = new Tables();
    }

    // ---- Making: promises 2 to 5 ----

    public int begin(char kind, int points) throws IllegalArgumentException {
        int most = kind == 't' ? MOST_POINTS_OF_MAPS : kind == 'r' ? MOST_POINTS_OF_RELATIONS : 0;
        if (points < 1 || points > most) {
            throw new IllegalArgumentException("there is no such kind, or the number of points is out of range");
        }
        int before = things.generatorCount;
        things.beginWith(kind == 't', points);
        elements.forget();
        ofAutomaton.setTo(0, 0);
        return before;
    }

    public int type(int number) throws IllegalArgumentException, IllegalStateException {
        if (number < -1 || number > 9) {
            throw new IllegalArgumentException("the number is out of range");
        }
        if (typed.numberCount >= MOST_NUMBERS) {
            throw new IllegalStateException("the row is full");
        }
        return typed.addNumber(number);
    }

    public int wipe() {
        int before = typed.numberCount + typed.signCount;
        typed.emptyRow();
        typed.emptyText();
        return before;
    }

    public int generator() throws IllegalArgumentException, IllegalStateException {
        int code = things.codeOfRow(typed);
        if (code < 0) {
            throw new IllegalArgumentException("the row is no such thing");
        }
        if (things.generatorCount >= MOST_GENERATORS) {
            throw new IllegalStateException("there are no more generators to be had");
        }
        typed.emptyRow();
        elements.forget();
        return things.addGenerator(code);
    }

    // ---- Elements, words and powers: promises 6 to 17 ----

    public int size() throws UnsupportedOperationException {
        needAll();
        return elements.count;
    }

    public int image(int element, int point) throws UnsupportedOperationException, IndexOutOfBoundsException {
        needAll();
        needElement(element);
        if (point < 0 || point >= things.points) {
            throw new IndexOutOfBoundsException("there is no such point");
        }
        return things.imageOf(elements.codeAt(element), point);
    }

    public int length(int element) throws UnsupportedOperationException, IndexOutOfBoundsException {
        needAll();
        needElement(element);
        return elements.lengthAt(element);
    }

    public int letter(int element, int index) throws UnsupportedOperationException, IndexOutOfBoundsException {
        needAll();
        needElement(element);
        if (index < 0 || index >= elements.lengthAt(element)) {
            throw new IndexOutOfBoundsException("there is no such index");
        }
        return elements.letterAt(element, index);
    }

    public int product(int left, int right) throws UnsupportedOperationException, IndexOutOfBoundsException {
        needAll();
        needElement(left);
        needElement(right);
        return elements.times(left, right);
    }

    public int power(int element, int power)
            throws UnsupportedOperationException, IndexOutOfBoundsException, IllegalArgumentException {
        needAll();
        needElement(element);
        if (power < 1) {
            throw new IllegalArgumentException("the power is out of range");
        }
        return elements.raised(element, power);
    }

    public int omega(int element) throws UnsupportedOperationException, IndexOutOfBoundsException {
        needAll();
        needElement(element);
        return elements.omegaAt(element);
    }

    public int index(int element) throws UnsupportedOperationException, IndexOutOfBoundsException {
        needAll();
        needElement(element);
        return elements.indexAt(element);
    }

    public int period(int element) throws UnsupportedOperationException, IndexOutOfBoundsException {
        needAll();
        needElement(element);
        return elements.periodAt(element);
    }

    public int find() throws UnsupportedOperationException, IllegalArgumentException, NoSuchElementException {
        needAll();
        int code = things.codeOfRow(typed);
        if (code < 0) {
            throw new IllegalArgumentException("the row is no such thing");
        }
        int element = elements.elementOf(code);
        if (element < 0) {
            throw new NoSuchElementException("the thing is no element");
        }
        return element;
    }

    public int word() throws UnsupportedOperationException, IllegalArgumentException {
        needAll();
        if (typed.numberCount == 0 || !typed.hasGeneratorsAlone(things.generatorCount)) {
            throw new IllegalArgumentException("the row is no word");
        }
        return elements.elementOfRow(typed);
    }

    public int rules() throws UnsupportedOperationException {
        needAll();
        return elements.countRules();
    }

    // ---- Likeness and boxes: promises 18 to 29 ----

    public int classes(char by) throws UnsupportedOperationException, IllegalArgumentException {
        needAll();
        needLikeness(by);
        return boxes.countClasses(by);
    }

    public int classOf(int element, char by)
            throws UnsupportedOperationException, IndexOutOfBoundsException, IllegalArgumentException {
        needAll();
        needElement(element);
        needLikeness(by);
        return boxes.lowestAlike(element, by);
    }

    public boolean isBelow(int element, int other, char by)
            throws UnsupportedOperationException, IndexOutOfBoundsException, IllegalArgumentException {
        needAll();
        needElement(element);
        needElement(other);
        if (by != 'R' && by != 'L' && by != 'J') {
            throw new IllegalArgumentException("there is no such order");
        }
        return boxes.isUnder(element, other, by);
    }

    public int inverses(int element) throws UnsupportedOperationException, IndexOutOfBoundsException {
        needAll();
        needElement(element);
        return kinds.countInverses(element);
    }

    public int inverse(int element, int index)
            throws UnsupportedOperationException, IndexOutOfBoundsException, NoSuchElementException {
        needAll();
        needElement(element);
        int found = kinds.inverseAt(element, index);
        if (found < 0) {
            throw new NoSuchElementException("there is no such inverse");
        }
        return found;
    }

    public int idempotents() throws UnsupportedOperationException {
        needAll();
        return kinds.countIdempotents();
    }

    public int idempotent(int index) throws UnsupportedOperationException, NoSuchElementException {
        needAll();
        int found = kinds.idempotentAt(index);
        if (found < 0) {
            throw new NoSuchElementException("there is no such idempotent");
        }
        return found;
    }

    public int sides(int element, boolean areRows) throws UnsupportedOperationException, IndexOutOfBoundsException {
        needAll();
        needElement(element);
        return boxes.countSides(element, areRows ? 'R' : 'L');
    }

    public int group(int element) throws UnsupportedOperationException, IndexOutOfBoundsException {
        needAll();
        needElement(element);
        return boxes.groupSizeAt(element);
    }

    public boolean meets(int element, int column, int row)
            throws UnsupportedOperationException, IndexOutOfBoundsException, NoSuchElementException {
        needAll();
        needElement(element);
        int ofColumn = boxes.lowestOfSide(element, 'L', column);
        int ofRow = boxes.lowestOfSide(element, 'R', row);
        if (ofColumn < 0 || ofRow < 0) {
            throw new NoSuchElementException("there is no such row or column");
        }
        return boxes.lowestAlike(elements.times(ofColumn, ofRow), 'J') == boxes.lowestAlike(element, 'J');
    }

    public int height(int element) throws UnsupportedOperationException, IndexOutOfBoundsException {
        needAll();
        needElement(element);
        return boxes.heightAt(element);
    }

    public int weight() throws UnsupportedOperationException {
        needAll();
        return boxes.greatestWeight();
    }

    // ---- Elements of their own: promises 30 and 31 ----

    public int special(char what)
            throws UnsupportedOperationException, IllegalArgumentException, NoSuchElementException {
        needAll();
        if (what != 'i' && what != 'z' && what != 'k') {
            throw new IllegalArgumentException("there is no such thing");
        }
        int found = what == 'i' ? kinds.identity() : what == 'z' ? kinds.zero() : boxes.lowestOfLeast();
        if (found < 0) {
            throw new NoSuchElementException("there is none");
        }
        return found;
    }

    public int units() throws UnsupportedOperationException, NoSuchElementException {
        needAll();
        int identity = kinds.identity();
        if (identity < 0) {
            throw new NoSuchElementException("there is no identity");
        }
        return kinds.countUnits(identity);
    }

    // ---- Congruences, parts and endomorphisms: promises 32 to 36 ----

    public int merged(int element, int other) throws UnsupportedOperationException, IndexOutOfBoundsException {
        needAll();
        needElement(element);
        needElement(other);
        counts.mergeLeast(element, other);
        return counts.countMerged();
    }

    public boolean areMerged(int element, int other, int one, int two)
            throws UnsupportedOperationException, IndexOutOfBoundsException {
        needAll();
        needElement(element);
        needElement(other);
        needElement(one);
        needElement(two);
        counts.mergeLeast(element, other);
        return counts.isTogether(one, two);
    }

    public int congruences() throws UnsupportedOperationException {
        needAll();
        needAtMost(Counts.MOST_FOR_CONGRUENCES);
        return counts.countCongruences();
    }

    public int parts() throws UnsupportedOperationException {
        needAll();
        needAtMost(Counts.MOST_FOR_PARTS);
        return counts.countParts();
    }

    public int endomorphisms() throws UnsupportedOperationException {
        needAll();
        needAtMost(Counts.MOST_FOR_ENDOMORPHISMS);
        if (things.generatorCount > Counts.MOST_GENERATORS_FOR_ENDOMORPHISMS) {
            throw new UnsupportedOperationException("there are too many generators");
        }
        return counts.countEndomorphisms();
    }

    // ---- Equations, kinds and free words: promises 37 to 41 ----

    public int sign(char sign) throws IllegalArgumentException, IllegalStateException {
        if (!Typed.isSign(sign)) {
            throw new IllegalArgumentException("there is no such sign");
        }
        if (typed.signCount >= MOST_SIGNS) {
            throw new IllegalStateException("the text is full");
        }
        return typed.addSign(sign);
    }

    public int fails() throws UnsupportedOperationException {
        needAll();
        if (!equation.isOne() || !equation.hasFewWays()) {
            throw new UnsupportedOperationException("the text is no equation, or there are too many ways");
        }
        return equation.firstFailure();
    }

    public boolean isA(char kind) throws UnsupportedOperationException, IllegalArgumentException {
        needAll();
        if (!Kinds.isKind(kind)) {
            throw new IllegalArgumentException("there is no such kind");
        }
        return kinds.holds(kind);
    }

    public boolean areSame(char kind) throws IllegalArgumentException, UnsupportedOperationException {
        if (!FreeWords.isKind(kind)) {
            throw new IllegalArgumentException("there is no such kind");
        }
        if (!freeWords.areTwo()) {
            throw new UnsupportedOperationException("the text is no such one");
        }
        return freeWords.areAlike(kind);
    }

    public int irreducibles() throws UnsupportedOperationException {
        needAll();
        return boxes.countConjugateClasses();
    }

    // ---- Points, automata and image sets: promises 42 to 49 ----

    public int together(int points)
            throws UnsupportedOperationException, IllegalArgumentException, NoSuchElementException {
        needMapsAndPoints(points);
        int length = pointSets.shortestTogether(points);
        if (length < 0) {
            throw new NoSuchElementException("there is no such word");
        }
        return length;
    }

    public int togetherAt(int points, int index)
            throws UnsupportedOperationException, IllegalArgumentException, NoSuchElementException {
        needMapsAndPoints(points);
        int length = pointSets.shortestTogether(points);
        if (index < 0 || index >= length) {
            throw new NoSuchElementException("there is no such word, or no such index in it");
        }
        return pointSets.letterTogether(length - 1 - index);
    }

    public int automaton(int begin, int ends) throws UnsupportedOperationException, IllegalArgumentException {
        needMaps();
        if (begin < 0 || begin >= things.points || ends < 0 || ends > things.allPoints()) {
            throw new IllegalArgumentException("there are no such points");
        }
        int before = 100 * ofAutomaton.first + ofAutomaton.ends;
        ofAutomaton.setTo(begin, ends);
        return before;
    }

    public boolean accepts() throws UnsupportedOperationException, IllegalArgumentException {
        needMaps();
        if (!typed.hasGeneratorsAlone(things.generatorCount)) {
            throw new IllegalArgumentException("the row has something that is no generator");
        }
        return ofAutomaton.takes(typed);
    }

    public int syntactic() throws UnsupportedOperationException {
        needAll();
        needMaps();
        ofAutomaton.prepare();
        return ofAutomaton.countClasses();
    }

    public boolean isLanguage(char kind) throws UnsupportedOperationException, IllegalArgumentException {
        needAll();
        needMaps();
        if (!Language.isKind(kind)) {
            throw new IllegalArgumentException("there is no such kind");
        }
        ofAutomaton.prepare();
        return ofAutomaton.holds(kind);
    }

    public int imageSets() throws UnsupportedOperationException {
        needAll();
        needMaps();
        return pointSets.countImageSets();
    }

    public int levels() throws UnsupportedOperationException {
        needAll();
        needMaps();
        return pointSets.countLevels();
    }

    // ---- Tables, sums and shares: promises 50 to 54 ----

    public int tables(int size, boolean areMirrors) throws IllegalArgumentException {
        if (size < 1 || size > Tables.MOST) {
            throw new IllegalArgumentException("the size is out of range");
        }
        return smallTables.countUpToLikeness(size, areMirrors);
    }

    public long checksum() throws UnsupportedOperationException {
        needAll();
        return elements.sumOfProducts();
    }

    public float regularShare() throws UnsupportedOperationException {
        needAll();
        float regular = (float) boxes.countRegular();
        float all = (float) elements.count;
        return all > 0 ? regular / all : 0;
    }

    public double meanLength() throws UnsupportedOperationException {
        needAll();
        double sum = (double) elements.sumOfLengths();
        double all = (double) elements.count;
        return all > 0 ? sum / all : 0;
    }

    public boolean isSound() {
        if (!elements.areKnown()) {
            return true;
        }
        return elements.doWordsMakeThings() && elements.areTriplesAssociative()
                && boxes.areClosuresSame() && boxes.haveGroupsOneIdempotent();
    }

    // ---- What several calls ask first ----

    private void needAll() {
        if (!elements.areKnown()) {
            throw new UnsupportedOperationException("not all is known");
        }
    }

    private void needAtMost(int most) {
        if (elements.count > most) {
            throw new UnsupportedOperationException("there are too many elements");
        }
    }

    private void needElement(int element) {
        if (!elements.isElement(element)) {
            throw new IndexOutOfBoundsException("there is no such element");
        }
    }

    private void needLikeness(char by) {
        if (by != 'R' && by != 'L' && by != 'H' && by != 'J') {
            throw new IllegalArgumentException("there is no such likeness");
        }
    }

    private void needMaps() {
        if (!things.areMaps) {
            throw new UnsupportedOperationException("things are relations");
        }
    }

    private void needMapsAndPoints(int points) {
        needMaps();
        if (things.generatorCount == 0) {
            throw new UnsupportedOperationException("there is no generator");
        }
        if (points < 1 || points > things.allPoints()) {
            throw new IllegalArgumentException("there are no such points");
        }
    }

    /** The row of numbers and the text of signs. */
    private static final class Typed {
        private static final String SIGNS = "xyz=^()abcd";

        private final int[] numbers;
        private final char[] signs;
        int numberCount;
        int signCount;
        /** Rises with each change of the text, so that an answer about an older text is known to be old. */
        int textVersion;

        Typed() {
            numbers = new int[MOST_NUMBERS];
            signs = new char[MOST_SIGNS];
        }

        static boolean isSign(char sign) {
            return SIGNS.indexOf(sign) >= 0;
        }

        int addNumber(int number) {
            if (numberCount < numbers.length) {
                numbers[numberCount] = number;
                numberCount++;
            }
            return numberCount;
        }

        int addSign(char sign) {
            if (signCount < signs.length) {
                signs[signCount] = sign;
                signCount++;
                textVersion++;
            }
            return signCount;
        }

        void emptyRow() {
            numberCount = 0;
        }

        void emptyText() {
            signCount = 0;
            textVersion++;
        }

        int numberAt(int at) {
            return at >= 0 && at < numberCount && at < numbers.length ? numbers[at] : -1;
        }

        /** A blank, which is no sign, stands for what is outside of the text. */
        char signAt(int at) {
            return at >= 0 && at < signCount && at < signs.length ? signs[at] : ' ';
        }

        boolean hasGeneratorsAlone(int generatorCount) {
            for (int at = 0; at < numberCount; at++) {
                if (numberAt(at) < 0 || numberAt(at) >= generatorCount) {
                    return false;
                }
            }
            return true;
        }
    }

    /**
     * The generators and what a thing is. A thing is kept as one number, three bits a point: of maps one more than
     * the point that is led to, so that 0 is none; of relations the points that are led to.
     */
    private static final class Things {
        private final int[] generators;
        boolean areMaps;
        int points;
        int generatorCount;

        Things() {
            generators = new int[MOST_GENERATORS];
            areMaps = true;
            points = 1;
        }

        void beginWith(boolean maps, int newPoints) {
            areMaps = maps;
            points = newPoints;
            generatorCount = 0;
        }

        int addGenerator(int code) {
            int number = generatorCount;
            if (number < generators.length) {
                generators[number] = code;
                generatorCount++;
            }
            return number;
        }

        int generatorAt(int number) {
            return number >= 0 && number < generators.length ? generators[number] : 0;
        }

        int allPoints() {
            return (1 << points) - 1;
        }

        static int digitAt(int code, int point) {
            return (code >> (3 * point)) & 7;
        }

        int imageOf(int code, int point) {
            return areMaps ? digitAt(code, point) - 1 : digitAt(code, point);
        }

        /** The thing that was typed, or -1 if the row is none. */
        int codeOfRow(Typed row) {
            if (row.numberCount != points) {
                return -1;
            }
            int least = areMaps ? -1 : 0;
            int greatest = areMaps ? points - 1 : allPoints();
            int code = 0;
            for (int point = 0; point < points; point++) {
                int number = row.numberAt(point);
                if (number < least || number > greatest) {
                    return -1;
                }
                code |= (number - least) << (3 * point);
            }
            return code;
        }

        int composed(int first, int second) {
            int code = 0;
            for (int point = 0; point < points; point++) {
                int through = digitAt(first, point);
                code |= (areMaps ? mapOn(through, second) : relateOn(through, second)) << (3 * point);
            }
            return code;
        }

        private static int mapOn(int through, int second) {
            return through == 0 ? 0 : digitAt(second, through - 1);
        }

        private static int relateOn(int through, int second) {
            int bits = 0;
            for (int point = 0; point < MOST_POINTS_OF_RELATIONS; point++) {
                if ((through >> point & 1) != 0) {
                    bits |= digitAt(second, point);
                }
            }
            return bits;
        }
    }

    /** The elements with their reduced words, products and powers, found anew when they are asked for. */
    private static final class Elements {
        private static final int SLOTS = 512;

        private final Things things;
        private final int[] codes;
        private final int[] prefixes;
        private final int[] lasts;
        private final int[] suffixes;
        private final int[] lengths;
        private final int[] steps;
        private final int[] slots;
        private final int[] ofGenerators;
        /** Eight products to a number, as each is less than 256: a run of many new objects has little room for each. */
        private final long[] products;
        private final int[] omegas;
        private final int[] indices;
        private final int[] periods;
        private final int[] scratch;
        private boolean isFresh;
        private boolean isAllKnown;
        int count;
        /** Rises when elements are found anew, so that what was told of older ones is known to be old. */
        int version;

        Elements(Things ofThings) {
            things = ofThings;
            codes = new int[MOST_ELEMENTS];
            prefixes = new int[MOST_ELEMENTS];
            lasts = new int[MOST_ELEMENTS];
            suffixes = new int[MOST_ELEMENTS];
            lengths = new int[MOST_ELEMENTS];
            steps = new int[MOST_ELEMENTS * MOST_GENERATORS];
            slots = new int[SLOTS];
            ofGenerators = new int[MOST_GENERATORS];
            products = new long[MOST_ELEMENTS * MOST_ELEMENTS / 8];
            omegas = new int[MOST_ELEMENTS];
            indices = new int[MOST_ELEMENTS];
            periods = new int[MOST_ELEMENTS];
            scratch = new int[MOST_ELEMENTS];
        }

        void forget() {
            isFresh = false;
        }

        boolean areKnown() {
            if (!isFresh) {
                isFresh = true;
                version++;
                isAllKnown = isEachFound();
                if (isAllKnown) {
                    fillProducts();
                    fillPowers();
                }
            }
            return isAllKnown;
        }

        boolean isElement(int element) {
            return element >= 0 && element < count && element < MOST_ELEMENTS;
        }

        int codeAt(int element) {
            return isElement(element) ? codes[element] : 0;
        }

        int lengthAt(int element) {
            return isElement(element) ? lengths[element] : 0;
        }

        int lastAt(int element) {
            return isElement(element) ? lasts[element] : 0;
        }

        /** The element of the reduced word without its last generator, -1 if this is empty. */
        int prefixAt(int element) {
            return isElement(element) ? prefixes[element] : -1;
        }

        int omegaAt(int element) {
            return isElement(element) ? omegas[element] : 0;
        }

        int indexAt(int element) {
            return isElement(element) ? indices[element] : 1;
        }

        int periodAt(int element) {
            return isElement(element) ? periods[element] : 1;
        }

        int generatorCount() {
            return things.generatorCount;
        }

        int ofGenerator(int number) {
            return number >= 0 && number < ofGenerators.length ? ofGenerators[number] : 0;
        }

        int times(int left, int right) {
            boolean areInside = left >= 0 && left < count && right >= 0 && right < count;
            int at = left * MOST_ELEMENTS + right;
            return areInside && at >> 3 < products.length ? (int) (products[at >> 3] >> (at & 7) * 8) & 255 : 0;
        }

        private void putProduct(int left, int right, int made) {
            int at = left * MOST_ELEMENTS + right;
            if (at >= 0 && at >> 3 < products.length) {
                products[at >> 3] |= (long) made << (at & 7) * 8;
            }
        }

        private int stepped(int element, int number) {
            boolean isInside = isElement(element) && number >= 0 && number < MOST_GENERATORS;
            return isInside ? steps[element * MOST_GENERATORS + number] : 0;
        }

        /**
         * Taking the elements in their order, and behind each the generators in theirs, meets each element first by
         * its reduced word, so that the numbers need no sorting.
         */
        private boolean isEachFound() {
            count = 0;
            Arrays.fill(slots, 0);
            for (int number = 0; number < things.generatorCount; number++) {
                noteStep(-1, number);
            }
            for (int element = 0; element < count && element < MOST_ELEMENTS; element++) {
                for (int number = 0; number < things.generatorCount; number++) {
                    if (!noteStep(element, number)) {
                        return false;
                    }
                }
            }
            return count > 0;
        }

        private boolean noteStep(int prefix, int number) {
            int generator = things.generatorAt(number);
            int code = prefix < 0 ? generator : things.composed(codeAt(prefix), generator);
            int found = elementOf(code);
            if (found < 0) {
                found = addedElement(code, prefix, number);
            }
            if (prefix < 0 && number >= 0 && number < MOST_GENERATORS) {
                ofGenerators[number] = found;
            } else if (isElement(prefix) && number >= 0 && number < MOST_GENERATORS) {
                steps[prefix * MOST_GENERATORS + number] = found;
            }
            return found >= 0;
        }

        private int addedElement(int code, int prefix, int number) {
            int element = count;
            if (element < 0 || element >= MOST_ELEMENTS) {
                return -1;
            }
            count++;
            codes[element] = code;
            prefixes[element] = prefix;
            lasts[element] = number;
            lengths[element] = 1 + lengthAt(prefix);
            slots[slotOf(code)] = element + 1;
            return element;
        }

        /** The slot that holds the thing, or the free one where it belongs; fewer than half are ever taken. */
        private int slotOf(int code) {
            int first = (code * 40503 >>> 6) & (SLOTS - 1);
            for (int tries = 0; tries < SLOTS; tries++) {
                int slot = (first + tries) & (SLOTS - 1);
                int element = slots[slot] - 1;
                if (element < 0 || element >= codes.length || codes[element] == code) {
                    return slot;
                }
            }
            return 0;
        }

        int elementOf(int code) {
            return slots[slotOf(code)] - 1;
        }

        private void fillProducts() {
            Arrays.fill(products, 0L);
            for (int left = 0; left < count && left < MOST_ELEMENTS; left++) {
                for (int right = 0; right < count && right < MOST_ELEMENTS; right++) {
                    int prefix = prefixes[right];
                    int ahead = prefix < 0 ? left : times(left, prefix);
                    putProduct(left, right, stepped(ahead, lasts[right]));
                }
            }
        }

        private void fillPowers() {
            for (int element = 0; element < count && element < MOST_ELEMENTS; element++) {
                fillPowersOf(element);
            }
        }

        private void fillPowersOf(int element) {
            int[] firstPowers = scratch;
            Arrays.fill(firstPowers, 0);
            int power = 1;
            int reached = element;
            while (power <= MOST_ELEMENTS && isElement(reached) && firstPowers[reached] == 0) {
                firstPowers[reached] = power;
                reached = times(reached, element);
                power++;
            }
            int index = isElement(reached) ? firstPowers[reached] : 1;
            int period = power > index ? power - index : 1;
            indices[element] = index;
            periods[element] = period;
            omegas[element] = raised(element, (index + period - 1) / period * period);
        }

        int raised(int element, int power) {
            int made = -1;
            int square = element;
            for (int rest = power; rest > 0; rest >>= 1) {
                if ((rest & 1) != 0) {
                    made = made < 0 ? square : times(made, square);
                }
                square = times(square, square);
            }
            return made;
        }

        int letterAt(int element, int index) {
            int at = element;
            for (int behind = lengthAt(element) - 1; behind > index; behind--) {
                at = prefixAt(at);
            }
            return lastAt(at);
        }

        int elementOfRow(Typed row) {
            int made = ofGenerator(row.numberAt(0));
            for (int at = 1; at < row.numberCount; at++) {
                made = stepped(made, row.numberAt(at));
            }
            return made;
        }

        private boolean isReduced(int prefix, int number) {
            int made = prefix < 0 ? ofGenerator(number) : stepped(prefix, number);
            return prefixAt(made) == prefix && lastAt(made) == number;
        }

        int countRules() {
            fillSuffixes();
            int found = 0;
            for (int number = 0; number < things.generatorCount; number++) {
                if (!isReduced(-1, number)) {
                    found++;
                }
            }
            for (int element = 0; element < count && element < MOST_ELEMENTS; element++) {
                for (int number = 0; number < things.generatorCount; number++) {
                    if (!isReduced(element, number) && isReduced(suffixes[element], number)) {
                        found++;
                    }
                }
            }
            return found;
        }

        /** What is behind the first generator of a reduced word is reduced too, and so has a lower number. */
        private void fillSuffixes() {
            for (int element = 0; element < count && element < MOST_ELEMENTS; element++) {
                int prefix = prefixes[element];
                int ahead = isElement(prefix) ? suffixes[prefix] : -1;
                int number = lasts[element];
                suffixes[element] = prefix < 0 ? -1 : ahead < 0 ? ofGenerator(number) : stepped(ahead, number);
            }
        }

        long sumOfProducts() {
            long sum = 7;
            for (int left = 0; left < count; left++) {
                for (int right = 0; right < count; right++) {
                    sum = 31 * sum + times(left, right);
                }
            }
            return sum;
        }

        int sumOfLengths() {
            int sum = 0;
            for (int element = 0; element < count; element++) {
                sum += lengthAt(element);
            }
            return sum;
        }

        boolean doWordsMakeThings() {
            for (int element = 0; element < count; element++) {
                if (codeOfWord(element) != codeAt(element)) {
                    return false;
                }
            }
            return true;
        }

        private int codeOfWord(int element) {
            int[] letters = scratch;
            int length = lengthAt(element);
            int at = element;
            for (int index = length - 1; index >= 0 && index < letters.length; index--) {
                letters[index] = lastAt(at);
                at = prefixAt(at);
            }
            int code = things.generatorAt(letters[0]);
            for (int index = 1; index < length && index < letters.length; index++) {
                code = things.composed(code, things.generatorAt(letters[index]));
            }
            return code;
        }

        boolean areTriplesAssociative() {
            if (count < 1) {
                return true;
            }
            for (int draw = 0; draw < 100; draw++) {
                int left = draw % count;
                int middle = (7 * draw + 1) % count;
                int right = (13 * draw + 5) % count;
                if (times(times(left, middle), right) != times(left, times(middle, right))) {
                    return false;
                }
            }
            return true;
        }
    }

    /** The orders by R, L and J, the classes of the likenesses, the boxes and their groups. */
    private static final class Boxes {
        private static final int LONGS = 4;

        private final Elements elements;
        private final long[] underR;
        private final long[] underL;
        private final long[] underJ;
        private final int[] classesR;
        private final int[] classesL;
        private final int[] classesH;
        private final int[] classesJ;
        private final int[] groupSizes;
        private final int[] heights;
        private final int[] weights;
        private final int[] members;
        private final int[] turned;
        private final int[] marks;
        private int builtFor;

        Boxes(Elements ofElements) {
            elements = ofElements;
            underR = new long[MOST_ELEMENTS * LONGS];
            underL = new long[MOST_ELEMENTS * LONGS];
            underJ = new long[MOST_ELEMENTS * LONGS];
            classesR = new int[MOST_ELEMENTS];
            classesL = new int[MOST_ELEMENTS];
            classesH = new int[MOST_ELEMENTS];
            classesJ = new int[MOST_ELEMENTS];
            groupSizes = new int[MOST_ELEMENTS];
            heights = new int[MOST_ELEMENTS];
            weights = new int[MOST_ELEMENTS];
            members = new int[MOST_ELEMENTS];
            turned = new int[MOST_ELEMENTS];
            marks = new int[MOST_ELEMENTS];
        }

        private int total() {
            return elements.count < MOST_ELEMENTS ? elements.count : MOST_ELEMENTS;
        }

        private void prepare() {
            if (builtFor == elements.version) {
                return;
            }
            builtFor = elements.version;
            fillOrders();
            fillClasses(underR, classesR);
            fillClasses(underL, classesL);
            fillClasses(underJ, classesJ);
            fillClassesH();
            fillGroupSizes();
            fillHeights();
        }

        private static void setBit(long[] rows, int row, int bit) {
            int at = row * LONGS + (bit >> 6);
            if (at >= 0 && at < rows.length) {
                rows[at] |= 1L << (bit & 63);
            }
        }

        private static boolean hasBit(long[] rows, int row, int bit) {
            int at = row * LONGS + (bit >> 6);
            return at >= 0 && at < rows.length && (rows[at] >> (bit & 63) & 1L) != 0;
        }

        private void fillOrders() {
            int total = total();
            Arrays.fill(underR, 0L);
            Arrays.fill(underL, 0L);
            Arrays.fill(underJ, 0L);
            for (int top = 0; top < total; top++) {
                setBit(underR, top, top);
                setBit(underL, top, top);
                for (int by = 0; by < total; by++) {
                    setBit(underR, top, elements.times(top, by));
                    setBit(underL, top, elements.times(by, top));
                }
            }
            for (int top = 0; top < total; top++) {
                fillUnderJ(top, total);
            }
        }

        /** Below by J is what is below by R what is below by L. */
        private void fillUnderJ(int top, int total) {
            for (int between = 0; between < total; between++) {
                if (hasBit(underL, top, between)) {
                    for (int part = 0; part < LONGS; part++) {
                        int to = top * LONGS + part;
                        int from = between * LONGS + part;
                        if (to >= 0 && to < underJ.length && from >= 0 && from < underR.length) {
                            underJ[to] |= underR[from];
                        }
                    }
                }
            }
        }

        private void fillClasses(long[] under, int[] classes) {
            int total = total();
            for (int element = 0; element < total && element < classes.length; element++) {
                int lowest = 0;
                while (lowest < element && !(hasBit(under, lowest, element) && hasBit(under, element, lowest))) {
                    lowest++;
                }
                classes[element] = lowest;
            }
        }

        private void fillClassesH() {
            int total = total();
            for (int element = 0; element < total; element++) {
                int lowest = 0;
                while (lowest < element && !(classesR[lowest] == classesR[element]
                        && classesL[lowest] == classesL[element])) {
                    lowest++;
                }
                classesH[element] = lowest;
            }
        }

        /** Kept at the lowest element of each box; all groups of a box have the same size. */
        private void fillGroupSizes() {
            int total = total();
            Arrays.fill(groupSizes, 0);
            for (int element = 0; element < total; element++) {
                int box = classesJ[element];
                boolean isFirst = box >= 0 && box < total && groupSizes[box] == 0;
                if (isFirst && elements.times(element, element) == element) {
                    groupSizes[box] = gatherMembers(element);
                }
            }
        }

        /** Gathers the class by H of an element, and returns how many this has. */
        private int gatherMembers(int element) {
            int total = total();
            int gathered = 0;
            for (int other = 0; other < total; other++) {
                if (lowest(classesH, other) == lowest(classesH, element) && gathered < members.length) {
                    members[gathered] = other;
                    gathered++;
                }
            }
            return gathered;
        }

        private int lowest(int[] classes, int element) {
            return element >= 0 && element < classes.length ? classes[element] : 0;
        }

        /** A class strictly below another one has fewer elements below it, so rising numbers meet it first. */
        private void fillHeights() {
            int total = total();
            for (int below = 1; below <= total; below++) {
                for (int box = 0; box < total; box++) {
                    if (classesJ[box] == box && countUnder(box) == below) {
                        fillHeight(box, total);
                    }
                }
            }
        }

        private int countUnder(int element) {
            int found = 0;
            for (int part = 0; part < LONGS; part++) {
                int at = element * LONGS + part;
                found += at >= 0 && at < underJ.length ? Long.bitCount(underJ[at]) : 0;
            }
            return found;
        }

        private void fillHeight(int box, int total) {
            if (box < 0 || box >= heights.length) {
                return;
            }
            int height = 0;
            int weight = 0;
            for (int other = 0; other < total; other++) {
                if (other != box && classesJ[other] == other && hasBit(underJ, box, other)) {
                    height = Math.max(height, heights[other]);
                    weight = Math.max(weight, weights[other]);
                }
            }
            heights[box] = height + 1;
            weights[box] = weight + (groupSizes[box] > 1 ? 1 : 0);
        }

        private int[] classesBy(char by) {
            return by == 'R' ? classesR : by == 'L' ? classesL : by == 'H' ? classesH : classesJ;
        }

        int countClasses(char by) {
            prepare();
            int[] classes = classesBy(by);
            int total = total();
            int found = 0;
            for (int element = 0; element < total; element++) {
                if (classes[element] == element) {
                    found++;
                }
            }
            return found;
        }

        int lowestAlike(int element, char by) {
            prepare();
            return lowest(classesBy(by), element);
        }

        boolean isUnder(int element, int other, char by) {
            prepare();
            return hasBit(by == 'R' ? underR : by == 'L' ? underL : underJ, other, element);
        }

        int countSides(int element, char by) {
            prepare();
            int[] classes = classesBy(by);
            int total = total();
            int found = 0;
            for (int other = 0; other < total; other++) {
                if (classes[other] == other && classesJ[other] == lowest(classesJ, element)) {
                    found++;
                }
            }
            return found;
        }

        /** The lowest element of a row or column of the box of an element, -1 if there is no such one. */
        int lowestOfSide(int element, char by, int number) {
            prepare();
            int[] classes = classesBy(by);
            int total = total();
            int found = -1;
            for (int other = 0; other < total; other++) {
                if (classes[other] == other && classesJ[other] == lowest(classesJ, element)) {
                    found++;
                    if (found == number) {
                        return other;
                    }
                }
            }
            return -1;
        }

        int groupSizeAt(int element) {
            prepare();
            return lowest(groupSizes, lowest(classesJ, element));
        }

        int heightAt(int element) {
            prepare();
            return lowest(heights, lowest(classesJ, element));
        }

        int greatestWeight() {
            prepare();
            int total = total();
            int greatest = 0;
            for (int box = 0; box < total; box++) {
                if (classesJ[box] == box) {
                    greatest = Math.max(greatest, weights[box]);
                }
            }
            return greatest;
        }

        /** The least box alone has height 1, for the product of elements of two is below both. */
        int lowestOfLeast() {
            prepare();
            int total = total();
            for (int box = 0; box < total; box++) {
                if (classesJ[box] == box && heights[box] == 1) {
                    return box;
                }
            }
            return -1;
        }

        /** Among finitely many elements those are regular whose box has an idempotent. */
        int countRegular() {
            prepare();
            int total = total();
            int found = 0;
            for (int element = 0; element < total; element++) {
                if (groupSizeAt(element) > 0) {
                    found++;
                }
            }
            return found;
        }

        int countConjugateClasses() {
            prepare();
            int total = total();
            int found = 0;
            Arrays.fill(turned, 0);
            for (int element = 0; element < total; element++) {
                int box = classesJ[element];
                boolean isFirst = box >= 0 && box < total && turned[box] == 0;
                if (isFirst && elements.times(element, element) == element) {
                    turned[box] = 1;
                    found += countConjugatesIn(element);
                }
            }
            return found;
        }

        private int countConjugatesIn(int idempotent) {
            int gathered = gatherMembers(idempotent);
            Arrays.fill(marks, 0);
            int found = 0;
            for (int at = 0; at < gathered && at < members.length; at++) {
                int member = members[at];
                if (member >= 0 && member < marks.length && marks[member] == 0) {
                    found++;
                    markConjugates(member, gathered);
                }
            }
            return found;
        }

        private void markConjugates(int member, int gathered) {
            for (int at = 0; at < gathered && at < members.length; at++) {
                int by = members[at];
                // A power of a group's element undoes it: the one before the omega power, or itself if it is this.
                int period = elements.periodAt(by);
                int undone = period > 1 ? elements.raised(by, period - 1) : by;
                int conjugate = elements.times(elements.times(undone, member), by);
                if (conjugate >= 0 && conjugate < marks.length) {
                    marks[conjugate] = 1;
                }
            }
        }

        boolean areClosuresSame() {
            prepare();
            int total = total();
            for (int element = 0; element < total; element++) {
                markClosure(element);
                for (int other = 0; other < total; other++) {
                    if ((marks[other] != 0) != hasBit(underJ, element, other)) {
                        return false;
                    }
                }
            }
            return areClassesMutual(total);
        }

        private boolean areClassesMutual(int total) {
            for (int element = 0; element < total; element++) {
                for (int other = 0; other < total; other++) {
                    boolean isMutual = hasBit(underJ, element, other) && hasBit(underJ, other, element);
                    if (isMutual != (classesJ[element] == classesJ[other])) {
                        return false;
                    }
                }
            }
            return true;
        }

        private void markClosure(int element) {
            Arrays.fill(marks, 0);
            int waiting = markAndQueue(element, 0);
            for (int at = 0; at < waiting && at < members.length; at++) {
                int from = members[at];
                for (int number = 0; number < elements.generatorCount(); number++) {
                    int generator = elements.ofGenerator(number);
                    waiting = markAndQueue(elements.times(from, generator), waiting);
                    waiting = markAndQueue(elements.times(generator, from), waiting);
                }
            }
        }

        private int markAndQueue(int element, int waiting) {
            boolean isInside = element >= 0 && element < marks.length && waiting >= 0 && waiting < members.length;
            if (!isInside || marks[element] != 0) {
                return waiting;
            }
            marks[element] = 1;
            members[waiting] = element;
            return waiting + 1;
        }

        boolean haveGroupsOneIdempotent() {
            prepare();
            int total = total();
            Arrays.fill(marks, 0);
            for (int element = 0; element < total; element++) {
                if (elements.times(element, element) == element) {
                    int group = classesH[element];
                    if (group < 0 || group >= marks.length || marks[group] != 0) {
                        return false;
                    }
                    marks[group] = 1;
                }
            }
            return true;
        }
    }

    /** Idempotents, inverses, elements of their own, and what kind the semigroup is of. */
    private static final class Kinds {
        private static final String KINDS = "abcgijrlmnosv";

        private final Elements elements;
        private final Boxes boxes;

        Kinds(Elements ofElements, Boxes ofBoxes) {
            elements = ofElements;
            boxes = ofBoxes;
        }

        static boolean isKind(char kind) {
            return KINDS.indexOf(kind) >= 0;
        }

        private boolean isInverse(int element, int other) {
            return elements.times(elements.times(element, other), element) == element
                    && elements.times(elements.times(other, element), other) == other;
        }

        int countInverses(int element) {
            int found = 0;
            for (int other = 0; other < elements.count; other++) {
                if (isInverse(element, other)) {
                    found++;
                }
            }
            return found;
        }

        /** The inverse of that index, -1 if there is none. */
        int inverseAt(int element, int index) {
            int ahead = 0;
            for (int other = 0; other < elements.count; other++) {
                if (isInverse(element, other)) {
                    if (ahead == index) {
                        return other;
                    }
                    ahead++;
                }
            }
            return -1;
        }

        private boolean isIdempotent(int element) {
            return elements.times(element, element) == element;
        }

        int countIdempotents() {
            int found = 0;
            for (int element = 0; element < elements.count; element++) {
                if (isIdempotent(element)) {
                    found++;
                }
            }
            return found;
        }

        /** The idempotent of that index, -1 if there is none. */
        int idempotentAt(int index) {
            int ahead = 0;
            for (int element = 0; element < elements.count; element++) {
                if (isIdempotent(element)) {
                    if (ahead == index) {
                        return element;
                    }
                    ahead++;
                }
            }
            return -1;
        }

        /** The identity, -1 if there is none; what leaves the generators as they are leaves all so. */
        int identity() {
            for (int element = 0; element < elements.count; element++) {
                boolean isOne = true;
                for (int number = 0; number < elements.generatorCount() && isOne; number++) {
                    int generator = elements.ofGenerator(number);
                    isOne = elements.times(element, generator) == generator
                            && elements.times(generator, element) == generator;
                }
                if (isOne) {
                    return element;
                }
            }
            return -1;
        }

        /** The zero, -1 if there is none. */
        int zero() {
            for (int element = 0; element < elements.count; element++) {
                if (isZero(element)) {
                    return element;
                }
            }
            return -1;
        }

        private boolean isZero(int element) {
            for (int number = 0; number < elements.generatorCount(); number++) {
                int generator = elements.ofGenerator(number);
                if (elements.times(element, generator) != element || elements.times(generator, element) != element) {
                    return false;
                }
            }
            return true;
        }

        int countUnits(int identity) {
            int found = 0;
            for (int element = 0; element < elements.count; element++) {
                if (isUnit(element, identity)) {
                    found++;
                }
            }
            return found;
        }

        private boolean isUnit(int element, int identity) {
            for (int other = 0; other < elements.count; other++) {
                if (elements.times(element, other) == identity || elements.times(other, element) == identity) {
                    return true;
                }
            }
            return false;
        }

        boolean holds(char kind) {
            switch (kind) {
                case 'a':
                    return isEachPeriodOne();
                case 'b':
                    return countIdempotents() == elements.count;
                case 'c':
                    return doGeneratorsCommute();
                case 'g':
                    return boxes.countClasses('H') == 1;
                case 'i':
                    return hasEachOneInverse();
                case 'j':
                    return boxes.countClasses('J') == elements.count;
                case 'r':
                    return boxes.countClasses('R') == elements.count;
                case 'l':
                    return boxes.countClasses('L') == elements.count;
                case 'm':
                    return identity() >= 0;
                case 'n':
                    return countIdempotents() == 1 && isZero(idempotentAt(0));
                case 'o':
                    return doIdempotentsStay();
                case 's':
                    return boxes.countClasses('J') == 1;
                case 'v':
                    return boxes.countRegular() == elements.count;
                default:
                    return false;
            }
        }

        private boolean isEachPeriodOne() {
            for (int element = 0; element < elements.count; element++) {
                if (elements.periodAt(element) != 1) {
                    return false;
                }
            }
            return true;
        }

        private boolean doGeneratorsCommute() {
            for (int number = 0; number < elements.generatorCount(); number++) {
                for (int other = 0; other < number; other++) {
                    int one = elements.ofGenerator(number);
                    int two = elements.ofGenerator(other);
                    if (elements.times(one, two) != elements.times(two, one)) {
                        return false;
                    }
                }
            }
            return true;
        }

        private boolean hasEachOneInverse() {
            for (int element = 0; element < elements.count; element++) {
                if (countInverses(element) != 1) {
                    return false;
                }
            }
            return true;
        }

        private boolean doIdempotentsStay() {
            for (int one = 0; one < elements.count; one++) {
                for (int two = 0; two < elements.count && isIdempotent(one); two++) {
                    if (isIdempotent(two) && !isIdempotent(elements.times(one, two))) {
                        return false;
                    }
                }
            }
            return true;
        }
    }

    /** The least congruence of two elements, and how many congruences, parts and endomorphisms there are. */
    private static final class Counts {
        static final int MOST_FOR_CONGRUENCES = 7;
        static final int MOST_FOR_PARTS = 10;
        static final int MOST_FOR_ENDOMORPHISMS = 30;
        static final int MOST_GENERATORS_FOR_ENDOMORPHISMS = 3;
        /** Seven elements are put together in 877 ways, ten have 1023 parts, three go to thirty in 27000 ways. */
        private static final int MOST_TRIES = 30000;

        private final Elements elements;
        private final int[] labels;
        private final int[] ones;
        private final int[] twos;
        private final int[] images;
        private int pairs;
        private int endomorphismCount;
        private int endomorphismsFor;

        Counts(Elements ofElements) {
            elements = ofElements;
            labels = new int[MOST_ELEMENTS];
            ones = new int[MOST_ELEMENTS];
            twos = new int[MOST_ELEMENTS];
            images = new int[MOST_FOR_ENDOMORPHISMS];
        }

        private int total() {
            return elements.count < MOST_ELEMENTS ? elements.count : MOST_ELEMENTS;
        }

        private int labelAt(int element) {
            return element >= 0 && element < labels.length ? labels[element] : 0;
        }

        /** Only a pair that puts two classes together is kept to be multiplied: the others add nothing. */
        void mergeLeast(int element, int other) {
            int total = total();
            for (int each = 0; each < total; each++) {
                labels[each] = each;
            }
            pairs = 0;
            putTogether(element, other);
            for (int at = 0; at < pairs && at < ones.length; at++) {
                int one = ones[at];
                int two = twos[at];
                for (int number = 0; number < elements.generatorCount(); number++) {
                    int generator = elements.ofGenerator(number);
                    putTogether(elements.times(one, generator), elements.times(two, generator));
                    putTogether(elements.times(generator, one), elements.times(generator, two));
                }
            }
        }

        private void putTogether(int one, int two) {
            int kept = Math.min(labelAt(one), labelAt(two));
            int lost = Math.max(labelAt(one), labelAt(two));
            if (kept == lost || pairs >= ones.length) {
                return;
            }
            ones[pairs] = one;
            twos[pairs] = two;
            pairs++;
            int total = total();
            for (int each = 0; each < total; each++) {
                if (labels[each] == lost) {
                    labels[each] = kept;
                }
            }
        }

        int countMerged() {
            int total = total();
            int found = 0;
            for (int each = 0; each < total; each++) {
                if (labels[each] == each) {
                    found++;
                }
            }
            return found;
        }

        boolean isTogether(int one, int two) {
            return labelAt(one) == labelAt(two);
        }

        int countCongruences() {
            Arrays.fill(labels, 0);
            int found = 0;
            boolean isMore = true;
            for (int tries = 0; tries < MOST_TRIES && isMore; tries++) {
                if (isCongruence()) {
                    found++;
                }
                isMore = isNextPartition();
            }
            return found;
        }

        /** Labels go up by one at most beyond all ahead of them, so that each partition is met once. */
        private boolean isNextPartition() {
            for (int at = total() - 1; at > 0; at--) {
                int greatest = 0;
                for (int ahead = 0; ahead < at; ahead++) {
                    greatest = Math.max(greatest, labels[ahead]);
                }
                if (labels[at] <= greatest) {
                    labels[at]++;
                    return true;
                }
                labels[at] = 0;
            }
            return false;
        }

        private boolean isCongruence() {
            int total = total();
            for (int one = 0; one < total; one++) {
                for (int two = 0; two < one; two++) {
                    if (labels[one] == labels[two] && !doStepsStayTogether(one, two)) {
                        return false;
                    }
                }
            }
            return true;
        }

        private boolean doStepsStayTogether(int one, int two) {
            for (int number = 0; number < elements.generatorCount(); number++) {
                int generator = elements.ofGenerator(number);
                if (!isTogether(elements.times(one, generator), elements.times(two, generator))
                        || !isTogether(elements.times(generator, one), elements.times(generator, two))) {
                    return false;
                }
            }
            return true;
        }

        int countParts() {
            int all = (1 << Math.min(total(), MOST_FOR_PARTS)) - 1;
            int found = 0;
            for (int part = 1; part <= all; part++) {
                if (hasItsProducts(part)) {
                    found++;
                }
            }
            return found;
        }

        private boolean hasItsProducts(int part) {
            for (int one = 0; one < MOST_FOR_PARTS; one++) {
                for (int two = 0; two < MOST_FOR_PARTS; two++) {
                    boolean areBoth = (part >> one & part >> two & 1) != 0;
                    if (areBoth && (part >> elements.times(one, two) & 1) == 0) {
                        return false;
                    }
                }
            }
            return true;
        }

        int countEndomorphisms() {
            if (endomorphismsFor == elements.version) {
                return endomorphismCount;
            }
            int different = 0;
            while (different < total() && elements.lengthAt(different) == 1) {
                different++;
            }
            Arrays.fill(images, 0);
            int found = 0;
            boolean isMore = true;
            for (int tries = 0; tries < MOST_TRIES && isMore; tries++) {
                if (isEndomorphism()) {
                    found++;
                }
                isMore = areNextImages(different);
            }
            endomorphismCount = found;
            endomorphismsFor = elements.version;
            return found;
        }

        /** The generators that differ are the first elements, as those with reduced words of length 1. */
        private boolean areNextImages(int different) {
            int total = total();
            for (int at = 0; at < different && at < images.length; at++) {
                images[at]++;
                if (images[at] < total) {
                    return true;
                }
                images[at] = 0;
            }
            return false;
        }

        private int imageAt(int element) {
            return element >= 0 && element < images.length ? images[element] : 0;
        }

        /**
         * The images of the generators give those of all others, each where its reduced word is met; where an element
         * is met again its image must agree, and products with generators behind then tell of all.
         */
        private boolean isEndomorphism() {
            int total = total();
            for (int element = 0; element < total; element++) {
                for (int number = 0; number < elements.generatorCount(); number++) {
                    int generator = elements.ofGenerator(number);
                    int made = elements.times(element, generator);
                    int due = elements.times(imageAt(element), imageAt(generator));
                    boolean isReduced = elements.prefixAt(made) == element && elements.lastAt(made) == number;
                    if (isReduced && made >= 0 && made < images.length) {
                        images[made] = due;
                    } else if (imageAt(made) != due) {
                        return false;
                    }
                }
            }
            return true;
        }
    }

    /** The text as an equation of factors with omega powers. */
    private static final class Equation {
        private static final int MOST_WAYS = 40000;

        private final Typed typed;
        private final Elements elements;
        private final int[] aheads;
        private final int[] factors;
        private final int[] values;
        private int answer;
        private int answeredText;
        private int answeredElements;

        Equation(Typed ofTyped, Elements ofElements) {
            typed = ofTyped;
            elements = ofElements;
            aheads = new int[MOST_SIGNS + 1];
            factors = new int[MOST_SIGNS + 1];
            values = new int[3];
        }

        private static boolean isLetter(char sign) {
            return sign == 'x' || sign == 'y' || sign == 'z';
        }

        /** A row has a factor when the sign ahead is the end of one, so that one look back is enough. */
        boolean isOne() {
            int open = 0;
            int sides = 1;
            for (int at = 0; at < typed.signCount; at++) {
                char sign = typed.signAt(at);
                char before = typed.signAt(at - 1);
                boolean isBehindFactor = isLetter(before) || before == ')' || before == '^';
                if (sign == '(') {
                    open++;
                } else if (sign == ')' && isBehindFactor && open > 0) {
                    open--;
                } else if (sign == '=' && isBehindFactor && open == 0 && sides == 1) {
                    sides++;
                } else if (!isLetter(sign) && !(sign == '^' && isBehindFactor && before != '^')) {
                    return false;
                }
            }
            char last = typed.signAt(typed.signCount - 1);
            return sides == 2 && open == 0 && (isLetter(last) || last == ')' || last == '^');
        }

        private boolean hasLetter(char letter) {
            for (int at = 0; at < typed.signCount; at++) {
                if (typed.signAt(at) == letter) {
                    return true;
                }
            }
            return false;
        }

        private int choices(char letter) {
            return hasLetter(letter) ? elements.count : 1;
        }

        boolean hasFewWays() {
            return choices('x') * choices('y') * choices('z') <= MOST_WAYS;
        }

        int firstFailure() {
            boolean isAnswered = answeredText == typed.textVersion && answeredElements == elements.version;
            if (!isAnswered) {
                answer = soughtFailure();
                answeredText = typed.textVersion;
                answeredElements = elements.version;
            }
            return answer;
        }

        private int soughtFailure() {
            int middle = 0;
            while (middle < typed.signCount && typed.signAt(middle) != '=') {
                middle++;
            }
            int xs = choices('x');
            int ys = choices('y');
            int zs = choices('z');
            for (int x = 0; x < xs; x++) {
                for (int y = 0; y < ys; y++) {
                    for (int z = 0; z < zs; z++) {
                        values[0] = x;
                        values[1] = y;
                        values[2] = z;
                        if (valueOf(0, middle) != valueOf(middle + 1, typed.signCount)) {
                            return x + MOST_ELEMENTS * y + MOST_WAYS * z;
                        }
                    }
                }
            }
            return -1;
        }

        /**
         * For each open bracket the product ahead of the last factor is kept apart from this factor, for a sign '^'
         * behind may still change it; -1 stands for what is empty.
         */
        private int valueOf(int from, int to) {
            int depth = 0;
            aheads[0] = -1;
            factors[0] = -1;
            for (int at = from; at < to; at++) {
                char sign = typed.signAt(at);
                if (sign == '(' && depth < MOST_SIGNS) {
                    depth++;
                    aheads[depth] = -1;
                    factors[depth] = -1;
                } else if (sign == ')' && depth > 0) {
                    int inside = rowProduct(depth);
                    depth--;
                    putFactor(depth, inside);
                } else if (sign == '^') {
                    factors[depth] = elements.omegaAt(factors[depth]);
                } else if (isLetter(sign)) {
                    putFactor(depth, values[sign - 'x']);
                }
            }
            return rowProduct(depth);
        }

        private int rowProduct(int depth) {
            if (depth < 0 || depth >= factors.length) {
                return -1;
            }
            int ahead = aheads[depth];
            int factor = factors[depth];
            return ahead < 0 ? factor : elements.times(ahead, factor);
        }

        private void putFactor(int depth, int factor) {
            if (depth >= 0 && depth < factors.length) {
                aheads[depth] = rowProduct(depth);
                factors[depth] = factor;
            }
        }
    }

    /** The text as two words of letters, asked in free semigroups. */
    private static final class FreeWords {
        private static final int LETTERS = 4;

        private final Typed typed;
        private final int[] lefts;
        private final int[] rights;

        FreeWords(Typed ofTyped) {
            typed = ofTyped;
            lefts = new int[LETTERS * LETTERS];
            rights = new int[LETTERS * LETTERS];
        }

        static boolean isKind(char kind) {
            return kind == 'c' || kind == 'l' || kind == 'p' || kind == 'b';
        }

        private int middleAt() {
            int at = 0;
            while (at < typed.signCount && typed.signAt(at) != '=') {
                at++;
            }
            return at;
        }

        boolean areTwo() {
            int middle = middleAt();
            for (int at = 0; at < typed.signCount; at++) {
                if (at != middle && (typed.signAt(at) < 'a' || typed.signAt(at) > 'd')) {
                    return false;
                }
            }
            return middle > 0 && middle < typed.signCount - 1;
        }

        boolean areAlike(char kind) {
            int middle = middleAt();
            int end = typed.signCount;
            if (kind == 'b') {
                return areSameBands(typed, 0, middle, middle + 1, end, 0);
            }
            Arrays.fill(lefts, 0);
            Arrays.fill(rights, 0);
            fillRows(kind, 0, middle, lefts);
            fillRows(kind, middle + 1, end, rights);
            for (int at = 0; at < lefts.length && at < rights.length; at++) {
                if (lefts[at] != rights[at]) {
                    return false;
                }
            }
            return true;
        }

        /** Numbers that are the same just for words that are the same. */
        private void fillRows(char kind, int from, int to, int[] rows) {
            int met = 0;
            for (int at = from; at < to; at++) {
                int letter = typed.signAt(at) - 'a';
                if (letter >= 0 && letter < LETTERS) {
                    if (kind == 'p') {
                        insert(letter, rows);
                    } else if (kind == 'c') {
                        rows[letter]++;
                    } else if (rows[letter] == 0) {
                        met++;
                        rows[letter] = met;
                    }
                }
            }
        }

        /** Rows never fall, so how often each letter is in a row tells it; what goes on to the next one is greater. */
        private static void insert(int letter, int[] rows) {
            int moving = letter;
            for (int row = 0; row < LETTERS; row++) {
                int greater = moving + 1;
                while (greater < LETTERS && rows[row * LETTERS + greater] == 0) {
                    greater++;
                }
                rows[row * LETTERS + moving]++;
                if (greater >= LETTERS) {
                    return;
                }
                rows[row * LETTERS + greater]--;
                moving = greater;
            }
        }

        /** Each level has one letter fewer, so that there are five at most. */
        private static boolean areSameBands(Typed text, int from, int to, int otherFrom, int otherTo, int depth) {
            if (depth > LETTERS || lettersOf(text, from, to) != lettersOf(text, otherFrom, otherTo)) {
                return false;
            }
            if (from >= to) {
                return true;
            }
            int left = lastNewFromLeft(text, from, to);
            int otherLeft = lastNewFromLeft(text, otherFrom, otherTo);
            int right = lastNewFromRight(text, from, to);
            int otherRight = lastNewFromRight(text, otherFrom, otherTo);
            return text.signAt(left) == text.signAt(otherLeft) && text.signAt(right) == text.signAt(otherRight)
                    && areSameBands(text, from, left, otherFrom, otherLeft, depth + 1)
                    && areSameBands(text, right + 1, to, otherRight + 1, otherTo, depth + 1);
        }

        private static int lettersOf(Typed text, int from, int to) {
            int letters = 0;
            for (int at = from; at < to; at++) {
                letters |= 1 << (text.signAt(at) - 'a');
            }
            return letters;
        }

        private static int lastNewFromLeft(Typed text, int from, int to) {
            int letters = 0;
            int found = from;
            for (int at = from; at < to; at++) {
                int letter = 1 << (text.signAt(at) - 'a');
                if ((letters & letter) == 0) {
                    letters |= letter;
                    found = at;
                }
            }
            return found;
        }

        private static int lastNewFromRight(Typed text, int from, int to) {
            int letters = 0;
            int found = to - 1;
            for (int at = to - 1; at >= from; at--) {
                int letter = 1 << (text.signAt(at) - 'a');
                if ((letters & letter) == 0) {
                    letters |= letter;
                    found = at;
                }
            }
            return found;
        }
    }

    /** The automaton, and the semigroup of its language. */
    private static final class Language {
        private static final int MOST_STATES = MOST_POINTS_OF_MAPS + 1;

        private final Things things;
        private final Elements elements;
        private final int[] states;
        private final boolean[] areApart;
        private final int[] marks;
        private final int[] classes;
        int first;
        int ends;

        Language(Things ofThings, Elements ofElements) {
            things = ofThings;
            elements = ofElements;
            states = new int[MOST_STATES];
            areApart = new boolean[MOST_STATES * MOST_STATES];
            marks = new int[MOST_ELEMENTS];
            classes = new int[MOST_ELEMENTS];
        }

        static boolean isKind(char kind) {
            return kind == 'a' || kind == 'b' || kind == 'c' || kind == 'n';
        }

        void setTo(int newFirst, int newEnds) {
            first = newFirst;
            ends = newEnds;
        }

        private boolean isEnd(int state) {
            return state >= 0 && (ends >> state & 1) != 0;
        }

        boolean takes(Typed row) {
            int state = first;
            for (int at = 0; at < row.numberCount && state >= 0; at++) {
                state = things.imageOf(things.generatorAt(row.numberAt(at)), state);
            }
            return isEnd(state);
        }

        /** None is a state too, the one behind the points, from which nothing is accepted. */
        private int stateBehind(int code, int state) {
            int to = state < things.points ? things.imageOf(code, state) : -1;
            return to < 0 ? things.points : to;
        }

        private boolean isApart(int one, int two) {
            int at = one * MOST_STATES + two;
            return at >= 0 && at < areApart.length && areApart[at];
        }

        private void fillStates() {
            int total = things.points + 1;
            for (int at = 0; at < areApart.length; at++) {
                areApart[at] = isEnd(at / MOST_STATES) != isEnd(at % MOST_STATES);
            }
            boolean isMore = true;
            for (int round = 0; round < areApart.length && isMore; round++) {
                isMore = isMoreApart(total);
            }
            for (int state = 0; state < total && state < states.length; state++) {
                int lowest = 0;
                while (lowest < state && isApart(lowest, state)) {
                    lowest++;
                }
                states[state] = lowest;
            }
        }

        private boolean isMoreApart(int total) {
            boolean isMore = false;
            for (int one = 0; one < total; one++) {
                for (int two = 0; two < total; two++) {
                    int at = one * MOST_STATES + two;
                    if (at < areApart.length && !areApart[at] && isTold(one, two)) {
                        areApart[at] = true;
                        isMore = true;
                    }
                }
            }
            return isMore;
        }

        private boolean isTold(int one, int two) {
            for (int number = 0; number < things.generatorCount; number++) {
                int generator = things.generatorAt(number);
                if (isApart(stateBehind(generator, one), stateBehind(generator, two))) {
                    return true;
                }
            }
            return false;
        }

        private int reachedPoints() {
            int reached = 1 << first;
            for (int round = 0; round < things.points; round++) {
                for (int point = 0; point < things.points; point++) {
                    for (int number = 0; number < things.generatorCount; number++) {
                        int to = things.imageOf(things.generatorAt(number), point);
                        if ((reached >> point & 1) != 0 && to >= 0) {
                            reached |= 1 << to;
                        }
                    }
                }
            }
            return reached;
        }

        /** Elements are told apart just if they lead from some point that is reached to states that are. */
        private void fillMarks() {
            int reached = reachedPoints();
            for (int element = 0; element < elements.count && element < MOST_ELEMENTS; element++) {
                int mark = 0;
                for (int point = 0; point < things.points; point++) {
                    int state = stateBehind(elements.codeAt(element), point);
                    if ((reached >> point & 1) != 0 && state >= 0 && state < states.length) {
                        mark |= states[state] << (3 * point);
                    }
                }
                marks[element] = mark;
            }
        }

        /** To be called ahead of what is asked about the classes. */
        void prepare() {
            fillStates();
            fillMarks();
            for (int element = 0; element < elements.count && element < MOST_ELEMENTS; element++) {
                int lowest = 0;
                while (lowest < element && marks[lowest] != marks[element]) {
                    lowest++;
                }
                classes[element] = lowest;
            }
        }

        private int lowestOf(int element) {
            return element >= 0 && element < classes.length ? classes[element] : 0;
        }

        private int lowestOfProduct(int left, int right) {
            return lowestOf(elements.times(left, right));
        }

        int countClasses() {
            int found = 0;
            for (int element = 0; element < elements.count; element++) {
                if (lowestOf(element) == element) {
                    found++;
                }
            }
            return found;
        }

        boolean holds(char kind) {
            switch (kind) {
                case 'a':
                    return isEachPeriodOne();
                case 'b':
                    return isEachIdempotent();
                case 'c':
                    return doAllCommute();
                case 'n':
                    return isNilpotent();
                default:
                    return false;
            }
        }

        private boolean isEachPeriodOne() {
            for (int element = 0; element < elements.count; element++) {
                int omega = elements.omegaAt(element);
                if (lowestOfProduct(omega, element) != lowestOf(omega)) {
                    return false;
                }
            }
            return true;
        }

        private boolean isEachIdempotent() {
            for (int element = 0; element < elements.count; element++) {
                if (lowestOfProduct(element, element) != lowestOf(element)) {
                    return false;
                }
            }
            return true;
        }

        private boolean doAllCommute() {
            for (int one = 0; one < elements.count; one++) {
                for (int two = 0; two < one; two++) {
                    if (lowestOfProduct(one, two) != lowestOfProduct(two, one)) {
                        return false;
                    }
                }
            }
            return true;
        }

        private boolean isNilpotent() {
            int zero = lowestOf(elements.omegaAt(0));
            for (int element = 0; element < elements.count; element++) {
                boolean isIdempotent = lowestOfProduct(element, element) == lowestOf(element);
                if (isIdempotent && lowestOf(element) != zero) {
                    return false;
                }
                if (lowestOfProduct(zero, element) != zero || lowestOfProduct(element, zero) != zero) {
                    return false;
                }
            }
            return true;
        }
    }

    /** Words that send points together, and image sets with their levels; a set of points is kept as bits. */
    private static final class PointSets {
        private static final int SETS = 1 << MOST_POINTS_OF_MAPS;

        private final Things things;
        private final int[] queue;
        private final int[] froms;
        private final int[] letters;
        private final long[] unders;
        private final int[] heights;

        PointSets(Things ofThings) {
            things = ofThings;
            queue = new int[SETS];
            froms = new int[SETS];
            letters = new int[SETS];
            unders = new long[SETS];
            heights = new int[SETS];
        }

        private int imageBy(int set, int number) {
            int generator = things.generatorAt(number);
            int image = 0;
            for (int point = 0; point < things.points; point++) {
                int to = things.imageOf(generator, point);
                if ((set >> point & 1) != 0 && to >= 0) {
                    image |= 1 << to;
                }
            }
            return image;
        }

        private boolean isDefined(int set, int number) {
            int generator = things.generatorAt(number);
            for (int point = 0; point < things.points; point++) {
                if ((set >> point & 1) != 0 && things.imageOf(generator, point) < 0) {
                    return false;
                }
            }
            return true;
        }

        /**
         * The length of the shortest word, -1 if there is none; letters keeps it from its end on then. Sets are met in
         * the order of their first words, so that the first single point that is met has the word that is due.
         */
        int shortestTogether(int points) {
            Arrays.fill(froms, -1);
            queue[0] = points;
            int waiting = 1;
            for (int at = 0; at < waiting && at < SETS; at++) {
                int set = queue[at];
                if (Integer.bitCount(set) == 1) {
                    return gatherLetters(set, points);
                }
                for (int number = 0; number < things.generatorCount; number++) {
                    int image = imageBy(set, number);
                    boolean isNew = image > 0 && image < SETS && image != points && froms[image] < 0;
                    if (isNew && waiting < SETS && isDefined(set, number)) {
                        froms[image] = set * MOST_GENERATORS + number;
                        queue[waiting] = image;
                        waiting++;
                    }
                }
            }
            return -1;
        }

        private int gatherLetters(int single, int points) {
            int set = single;
            int length = 0;
            while (length < SETS && set != points && set >= 0 && set < SETS && froms[set] >= 0) {
                letters[length] = froms[set] % MOST_GENERATORS;
                set = froms[set] / MOST_GENERATORS;
                length++;
            }
            return length;
        }

        int letterTogether(int fromEnd) {
            return fromEnd >= 0 && fromEnd < SETS ? letters[fromEnd] : 0;
        }

        /** The sets that some sets, one bit each, become by words, the empty one too. */
        private long closureOf(long seeds) {
            long closure = seeds;
            int waiting = 0;
            for (int set = 1; set < SETS; set++) {
                if ((seeds >> set & 1L) != 0 && waiting < SETS) {
                    queue[waiting] = set;
                    waiting++;
                }
            }
            for (int at = 0; at < waiting && at < SETS; at++) {
                for (int number = 0; number < things.generatorCount; number++) {
                    int image = imageBy(queue[at], number);
                    if (image > 0 && (closure >> image & 1L) == 0 && waiting < SETS) {
                        closure |= 1L << image;
                        queue[waiting] = image;
                        waiting++;
                    }
                }
            }
            return closure;
        }

        private long allImageSets() {
            long seeds = 1L << things.allPoints();
            for (int point = 0; point < things.points; point++) {
                seeds |= 1L << (1 << point);
            }
            return closureOf(seeds);
        }

        int countImageSets() {
            return Long.bitCount(allImageSets());
        }

        private long partsOf(long sets, long among) {
            long parts = 0;
            for (int whole = 1; whole < SETS; whole++) {
                for (int part = 1; part <= whole && (sets >> whole & 1L) != 0; part++) {
                    if ((part & ~whole) == 0) {
                        parts |= 1L << part;
                    }
                }
            }
            return parts & among;
        }

        /** A set strictly below another one has fewer sets below it, so rising numbers meet it first. */
        int countLevels() {
            long all = allImageSets();
            for (int set = 1; set < SETS; set++) {
                unders[set] = (all >> set & 1L) != 0 ? partsOf(closureOf(1L << set), all) : 0L;
                heights[set] = 0;
            }
            int levels = 0;
            for (int below = 1; below < SETS; below++) {
                for (int set = 1; set < SETS; set++) {
                    if (Long.bitCount(unders[set]) == below) {
                        heights[set] = 1 + greatestStrictlyUnder(set);
                        levels = Math.max(levels, heights[set]);
                    }
                }
            }
            return levels;
        }

        private int greatestStrictlyUnder(int set) {
            int greatest = 0;
            for (int other = 1; other < SETS && set < SETS && set >= 0; other++) {
                if ((unders[set] >> other & 1L) != 0 && (unders[other] >> set & 1L) == 0) {
                    greatest = Math.max(greatest, heights[other]);
                }
            }
            return greatest;
        }
    }

    /** Tables of few elements, counted by the first one of those that are alike. */
    private static final class Tables {
        static final int MOST = 3;
        private static final int MOST_TRIES = 20000;
        private static final int[] NAMES = {0, 1, 2, 0, 2, 1, 1, 0, 2, 1, 2, 0, 2, 0, 1, 2, 1, 0};

        private final int[] cells;
        private final int[] renamed;
        private final int[] answers;
        private int side;

        Tables() {
            cells = new int[MOST * MOST];
            renamed = new int[MOST * MOST];
            answers = new int[2 * MOST + 2];
        }

        int countUpToLikeness(int size, boolean areMirrors) {
            int at = 2 * size + (areMirrors ? 1 : 0);
            if (size < 1 || size > MOST || at >= answers.length) {
                return 0;
            }
            if (answers[at] == 0) {
                side = size;
                answers[at] = counted(areMirrors);
            }
            return answers[at];
        }

        private int counted(boolean areMirrors) {
            Arrays.fill(cells, 0);
            int found = 0;
            boolean isMore = true;
            for (int tries = 0; tries < MOST_TRIES && isMore; tries++) {
                if (isAssociative() && isFirstOfAlike(areMirrors)) {
                    found++;
                }
                isMore = isNextTable();
            }
            return found;
        }

        private boolean isNextTable() {
            for (int at = side * side - 1; at >= 0; at--) {
                cells[at]++;
                if (cells[at] < side) {
                    return true;
                }
                cells[at] = 0;
            }
            return false;
        }

        private int cellAt(int row, int column) {
            int at = row * side + column;
            return at >= 0 && at < cells.length ? cells[at] : 0;
        }

        private boolean isAssociative() {
            for (int one = 0; one < side; one++) {
                for (int two = 0; two < side; two++) {
                    for (int three = 0; three < side; three++) {
                        if (cellAt(cellAt(one, two), three) != cellAt(one, cellAt(two, three))) {
                            return false;
                        }
                    }
                }
            }
            return true;
        }

        private boolean isFirstOfAlike(boolean areMirrors) {
            for (int names = 0; names + MOST <= NAMES.length; names += MOST) {
                if (areNamesInside(names)
                        && (isRenamedLess(names, false) || areMirrors && isRenamedLess(names, true))) {
                    return false;
                }
            }
            return true;
        }

        private static int nameOf(int names, int element) {
            int at = names + element;
            return at >= 0 && at < NAMES.length ? NAMES[at] : 0;
        }

        private boolean areNamesInside(int names) {
            for (int element = 0; element < side; element++) {
                if (nameOf(names, element) >= side) {
                    return false;
                }
            }
            return true;
        }

        private boolean isRenamedLess(int names, boolean isMirror) {
            for (int row = 0; row < side; row++) {
                for (int column = 0; column < side; column++) {
                    int one = nameOf(names, isMirror ? column : row);
                    int two = nameOf(names, isMirror ? row : column);
                    int at = one * side + two;
                    if (at >= 0 && at < renamed.length) {
                        renamed[at] = nameOf(names, cellAt(row, column));
                    }
                }
            }
            for (int at = 0; at < side * side && at < cells.length; at++) {
                if (renamed[at] != cells[at]) {
                    return renamed[at] < cells[at];
                }
            }
            return false;
        }
    }
}
