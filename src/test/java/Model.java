import java.util.ArrayDeque;
import java.util.ArrayList;
import java.util.Arrays;
import java.util.Deque;
import java.util.HashMap;
import java.util.HashSet;
import java.util.LinkedHashMap;
import java.util.List;
import java.util.Map;
import java.util.NoSuchElementException;
import java.util.Set;
import java.util.TreeSet;

/**
 * The document once more, by its definitions and with the library's collections, slow and without anything that is
 * shared with the program: ModelTest compares both.
 */
final class Model {
    private char kind = 't';
    private int points = 1;
    private final List<List<Integer>> generators = new ArrayList<>();
    private final List<Integer> row = new ArrayList<>();
    private String text = "";
    private int first = 0;
    private int ends = 0;

    private List<List<Integer>> things;
    private List<List<Integer>> words;
    private int[][] table;
    private Map<String, boolean[][]> orders = new HashMap<>();

    // ---- Making ----

    int begin(char newKind, int newPoints) {
        if (!(newKind == 't' && 1 <= newPoints && newPoints <= 6
                || newKind == 'r' && 1 <= newPoints && newPoints <= 3)) {
            throw new IllegalArgumentException();
        }
        int before = generators.size();
        kind = newKind;
        points = newPoints;
        generators.clear();
        first = 0;
        ends = 0;
        things = null;
        return before;
    }

    int type(int number) {
        if (number < -1 || number > 9) {
            throw new IllegalArgumentException();
        }
        if (row.size() == 20) {
            throw new IllegalStateException();
        }
        row.add(number);
        return row.size();
    }

    int wipe() {
        int before = row.size() + text.length();
        row.clear();
        text = "";
        return before;
    }

    private boolean isRowThing() {
        if (row.size() != points) {
            return false;
        }
        for (int number : row) {
            if (kind == 't' ? number < -1 || number >= points : number < 0 || number >= 1 << points) {
                return false;
            }
        }
        return true;
    }

    int generator() {
        if (!isRowThing()) {
            throw new IllegalArgumentException();
        }
        if (generators.size() == 4) {
            throw new IllegalStateException();
        }
        generators.add(new ArrayList<>(row));
        row.clear();
        things = null;
        return generators.size() - 1;
    }

    int sign(char sign) {
        if ("xyz=^()abcd".indexOf(sign) < 0) {
            throw new IllegalArgumentException();
        }
        if (text.length() == 24) {
            throw new IllegalStateException();
        }
        text += sign;
        return text.length();
    }

    // ---- Elements ----

    private List<Integer> composed(List<Integer> x, List<Integer> y) {
        List<Integer> made = new ArrayList<>();
        for (int image : x) {
            if (kind == 't') {
                made.add(image < 0 ? -1 : y.get(image));
            } else {
                int bits = 0;
                for (int point = 0; point < points; point++) {
                    bits |= (image & 1 << point) != 0 ? y.get(point) : 0;
                }
                made.add(bits);
            }
        }
        return made;
    }

    /** The elements as products of sets, without regard to words; null if they are too many. */
    private Set<List<Integer>> closure() {
        Set<List<Integer>> all = new HashSet<>(generators);
        boolean grows = true;
        while (grows && all.size() <= 200) {
            Set<List<Integer>> more = new HashSet<>(all);
            for (List<Integer> x : all) {
                for (List<Integer> g : generators) {
                    more.add(composed(g, x));
                }
            }
            grows = more.size() > all.size();
            all = more;
        }
        return all.size() <= 200 ? all : null;
    }

    private boolean isKnown() {
        if (things == null) {
            orders = new HashMap<>();
            things = new ArrayList<>();
            words = new ArrayList<>();
            Set<List<Integer>> all = closure();
            if (all == null || all.isEmpty()) {
                return false;
            }
            findWords(all.size());
            fillTable();
        }
        return !things.isEmpty();
    }

    /** Words by rising lengths, and those of one length compared from the front, until each element has one. */
    private void findWords(int total) {
        Map<List<Integer>, List<Integer>> found = new LinkedHashMap<>();
        List<List<Integer>> sameLength = new ArrayList<>();
        sameLength.add(new ArrayList<>());
        while (found.size() < total) {
            List<List<Integer>> longer = new ArrayList<>();
            for (List<Integer> word : sameLength) {
                for (int g = 0; g < generators.size(); g++) {
                    List<Integer> next = new ArrayList<>(word);
                    next.add(g);
                    if (found.putIfAbsent(thingOf(next), next) == null || areFewWords(sameLength)) {
                        longer.add(next);
                    }
                }
            }
            sameLength = longer;
        }
        for (Map.Entry<List<Integer>, List<Integer>> each : found.entrySet()) {
            things.add(each.getKey());
            words.add(each.getValue());
        }
    }

    /** While words are few all of them are tried; later on only those that go on from reduced ones. */
    private static boolean areFewWords(List<List<Integer>> sameLength) {
        return sameLength.size() < 300;
    }

    private List<Integer> thingOf(List<Integer> word) {
        List<Integer> made = generators.get(word.get(0));
        for (int at = 1; at < word.size(); at++) {
            made = composed(made, generators.get(word.get(at)));
        }
        return made;
    }

    private void fillTable() {
        int n = things.size();
        Map<List<Integer>, Integer> numbers = new HashMap<>();
        for (int x = 0; x < n; x++) {
            numbers.put(things.get(x), x);
        }
        table = new int[n][n];
        for (int x = 0; x < n; x++) {
            for (int y = 0; y < n; y++) {
                table[x][y] = numbers.get(composed(things.get(x), things.get(y)));
            }
        }
    }

    private int n() {
        if (!isKnown()) {
            throw new UnsupportedOperationException();
        }
        return things.size();
    }

    private void element(int... elements) {
        int n = n();
        for (int element : elements) {
            if (element < 0 || element >= n) {
                throw new IndexOutOfBoundsException();
            }
        }
    }

    int size() {
        return n();
    }

    int image(int element, int point) {
        element(element);
        if (point < 0 || point >= points) {
            throw new IndexOutOfBoundsException();
        }
        return things.get(element).get(point);
    }

    int length(int element) {
        element(element);
        return words.get(element).size();
    }

    int letter(int element, int index) {
        element(element);
        if (index < 0 || index >= words.get(element).size()) {
            throw new IndexOutOfBoundsException();
        }
        return words.get(element).get(index);
    }

    int product(int left, int right) {
        element(left, right);
        return table[left][right];
    }

    /** The powers of an element, from the first one on, until one is there again. */
    private List<Integer> powers(int x) {
        List<Integer> powers = new ArrayList<>();
        int power = x;
        while (!powers.contains(power)) {
            powers.add(power);
            power = table[power][x];
        }
        powers.add(power);
        return powers;
    }

    int power(int element, int power) {
        element(element);
        if (power < 1) {
            throw new IllegalArgumentException();
        }
        int at = power;
        if (at > 1000) {
            int k = index(element);
            at = k + (int) (((long) power - k) % period(element));
        }
        int made = element;
        for (int times = 1; times < at; times++) {
            made = table[made][element];
        }
        return made;
    }

    int omega(int element) {
        element(element);
        for (int power : powers(element)) {
            if (table[power][power] == power) {
                return power;
            }
        }
        throw new AssertionError();
    }

    int index(int element) {
        element(element);
        List<Integer> powers = powers(element);
        return 1 + powers.indexOf(powers.get(powers.size() - 1));
    }

    int period(int element) {
        return powersAndCheck(element).size() - index(element);
    }

    private List<Integer> powersAndCheck(int element) {
        element(element);
        return powers(element);
    }

    int find() {
        n();
        if (!isRowThing()) {
            throw new IllegalArgumentException();
        }
        if (!things.contains(row)) {
            throw new NoSuchElementException();
        }
        return things.indexOf(row);
    }

    private boolean isRowOfGenerators() {
        for (int number : row) {
            if (number < 0 || number >= generators.size()) {
                return false;
            }
        }
        return true;
    }

    int word() {
        n();
        if (row.isEmpty() || !isRowOfGenerators()) {
            throw new IllegalArgumentException();
        }
        return things.indexOf(thingOf(row));
    }

    int rules() {
        n();
        Set<List<Integer>> reduced = new HashSet<>(words);
        Set<List<Integer>> found = new HashSet<>();
        List<List<Integer>> fronts = new ArrayList<>(words);
        fronts.add(new ArrayList<>());
        for (List<Integer> front : fronts) {
            for (int g = 0; g < generators.size(); g++) {
                List<Integer> word = new ArrayList<>(front);
                word.add(g);
                List<Integer> back = word.subList(1, word.size());
                if (!reduced.contains(word) && (back.isEmpty() || reduced.contains(back))) {
                    found.add(word);
                }
            }
        }
        return found.size();
    }

    // ---- Likeness ----

    private boolean[][] order(char by) {
        return orders.computeIfAbsent(String.valueOf(by), key -> makeOrder(by));
    }

    /** What is below what, [below][above]. */
    private boolean[][] makeOrder(char by) {
        int n = things.size();
        boolean[][] under = new boolean[n][n];
        for (int y = 0; y < n; y++) {
            under[y][y] = true;
            for (int s = 0; s < n; s++) {
                under[table[y][s]][y] |= by != 'L';
                under[table[s][y]][y] |= by != 'R';
                for (int t = 0; t < n && by == 'J'; t++) {
                    under[table[table[s][y]][t]][y] = true;
                }
            }
        }
        return under;
    }

    private boolean areAlike(int x, int y, char by) {
        if (by == 'H') {
            return areAlike(x, y, 'R') && areAlike(x, y, 'L');
        }
        return order(by)[x][y] && order(by)[y][x];
    }

    private int lowest(int x, char by) {
        int y = 0;
        while (!areAlike(x, y, by)) {
            y++;
        }
        return y;
    }

    private static void likeness(char by, String some) {
        if (some.indexOf(by) < 0) {
            throw new IllegalArgumentException();
        }
    }

    /** The lowest elements of the classes by one likeness in the box of an element, or in all with -1. */
    private List<Integer> lowestOnes(char by, int inBoxOf) {
        Set<Integer> found = new TreeSet<>();
        for (int x = 0; x < things.size(); x++) {
            if (inBoxOf < 0 || areAlike(x, inBoxOf, 'J')) {
                found.add(lowest(x, by));
            }
        }
        return new ArrayList<>(found);
    }

    int classes(char by) {
        n();
        likeness(by, "RLHJ");
        return lowestOnes(by, -1).size();
    }

    int classOf(int element, char by) {
        element(element);
        likeness(by, "RLHJ");
        return lowest(element, by);
    }

    boolean isBelow(int element, int other, char by) {
        element(element, other);
        likeness(by, "RLJ");
        return order(by)[element][other];
    }

    private List<Integer> inversesOf(int x) {
        List<Integer> found = new ArrayList<>();
        for (int y = 0; y < things.size(); y++) {
            if (table[table[x][y]][x] == x && table[table[y][x]][y] == y) {
                found.add(y);
            }
        }
        return found;
    }

    int inverses(int element) {
        element(element);
        return inversesOf(element).size();
    }

    private static int at(List<Integer> some, int index) {
        if (index < 0 || index >= some.size()) {
            throw new NoSuchElementException();
        }
        return some.get(index);
    }

    int inverse(int element, int index) {
        element(element);
        return at(inversesOf(element), index);
    }

    private List<Integer> allIdempotents() {
        List<Integer> found = new ArrayList<>();
        for (int x = 0; x < things.size(); x++) {
            if (table[x][x] == x) {
                found.add(x);
            }
        }
        return found;
    }

    int idempotents() {
        n();
        return allIdempotents().size();
    }

    int idempotent(int index) {
        n();
        return at(allIdempotents(), index);
    }

    int sides(int element, boolean areRows) {
        element(element);
        return lowestOnes(areRows ? 'R' : 'L', element).size();
    }

    /** The elements of the group of a box, of the last idempotent's class; empty without one. */
    private List<Integer> groupOf(int element) {
        List<Integer> group = new ArrayList<>();
        for (int e : allIdempotents()) {
            if (areAlike(e, element, 'J')) {
                group.clear();
                for (int x = 0; x < things.size(); x++) {
                    if (areAlike(x, e, 'H')) {
                        group.add(x);
                    }
                }
            }
        }
        return group;
    }

    int group(int element) {
        element(element);
        return groupOf(element).size();
    }

    boolean meets(int element, int column, int rowNumber) {
        element(element);
        int left = at(lowestOnes('L', element), column);
        int right = at(lowestOnes('R', element), rowNumber);
        Set<Boolean> answers = new HashSet<>();
        for (int x = 0; x < things.size(); x++) {
            for (int y = 0; y < things.size(); y++) {
                if (areAlike(x, left, 'L') && areAlike(y, right, 'R')) {
                    answers.add(areAlike(table[x][y], element, 'J'));
                }
            }
        }
        if (answers.size() != 1) {
            throw new AssertionError();
        }
        return answers.contains(true);
    }

    private int greatestRow(int box, boolean isWeight, Map<Integer, Integer> known) {
        if (!known.containsKey(box)) {
            int greatest = 0;
            for (int other : lowestOnes('J', -1)) {
                if (other != box && order('J')[other][box]) {
                    greatest = Math.max(greatest, greatestRow(other, isWeight, known));
                }
            }
            known.put(box, greatest + (!isWeight || groupOf(box).size() > 1 ? 1 : 0));
        }
        return known.get(box);
    }

    int height(int element) {
        element(element);
        return greatestRow(lowest(element, 'J'), false, new HashMap<>());
    }

    int weight() {
        n();
        int greatest = 0;
        Map<Integer, Integer> known = new HashMap<>();
        for (int box : lowestOnes('J', -1)) {
            greatest = Math.max(greatest, greatestRow(box, true, known));
        }
        return greatest;
    }

    private int identity() {
        for (int e = 0; e < things.size(); e++) {
            boolean isOne = true;
            for (int x = 0; x < things.size(); x++) {
                isOne &= table[e][x] == x && table[x][e] == x;
            }
            if (isOne) {
                return e;
            }
        }
        return -1;
    }

    private int zero() {
        for (int z = 0; z < things.size(); z++) {
            boolean isZero = true;
            for (int x = 0; x < things.size(); x++) {
                isZero &= table[z][x] == z && table[x][z] == z;
            }
            if (isZero) {
                return z;
            }
        }
        return -1;
    }

    private int least() {
        for (int k = 0; k < things.size(); k++) {
            boolean isLeast = true;
            for (int x = 0; x < things.size(); x++) {
                isLeast &= order('J')[k][x];
            }
            if (isLeast) {
                return k;
            }
        }
        return -1;
    }

    int special(char what) {
        n();
        likeness(what, "izk");
        int found = what == 'i' ? identity() : what == 'z' ? zero() : least();
        if (found < 0) {
            throw new NoSuchElementException();
        }
        return found;
    }

    int units() {
        n();
        int e = identity();
        if (e < 0) {
            throw new NoSuchElementException();
        }
        int found = 0;
        for (int x = 0; x < things.size(); x++) {
            boolean isUnit = false;
            for (int y = 0; y < things.size(); y++) {
                isUnit |= table[x][y] == e || table[y][x] == e;
            }
            found += isUnit ? 1 : 0;
        }
        return found;
    }

    // ---- Congruences ----

    private boolean[][] leastCongruence(int a, int b) {
        int n = things.size();
        boolean[][] together = new boolean[n][n];
        for (int x = 0; x < n; x++) {
            together[x][x] = true;
        }
        Deque<int[]> waiting = new ArrayDeque<>();
        waiting.add(new int[] {a, b});
        while (!waiting.isEmpty()) {
            int[] pair = waiting.poll();
            if (together[pair[0]][pair[1]]) {
                continue;
            }
            boolean[] one = together[pair[0]].clone();
            boolean[] two = together[pair[1]].clone();
            for (int x = 0; x < n; x++) {
                for (int y = 0; y < n; y++) {
                    if (one[x] && two[y]) {
                        together[x][y] = true;
                        together[y][x] = true;
                    }
                }
            }
            for (int s = 0; s < n; s++) {
                waiting.add(new int[] {table[s][pair[0]], table[s][pair[1]]});
                waiting.add(new int[] {table[pair[0]][s], table[pair[1]][s]});
            }
        }
        return together;
    }

    int merged(int element, int other) {
        element(element, other);
        boolean[][] together = leastCongruence(element, other);
        Set<String> classes = new HashSet<>();
        for (boolean[] each : together) {
            classes.add(Arrays.toString(each));
        }
        return classes.size();
    }

    boolean areMerged(int element, int other, int one, int two) {
        element(element, other, one, two);
        return leastCongruence(element, other)[one][two];
    }

    private void atMost(int most) {
        if (n() > most) {
            throw new UnsupportedOperationException();
        }
    }

    int congruences() {
        atMost(7);
        return countPartitions(new int[things.size()], 0, 0);
    }

    private int countPartitions(int[] labels, int at, int used) {
        if (at == labels.length) {
            return isCongruence(labels) ? 1 : 0;
        }
        int found = 0;
        for (int label = 0; label <= used; label++) {
            labels[at] = label;
            found += countPartitions(labels, at + 1, Math.max(used, label + 1));
        }
        return found;
    }

    private boolean isCongruence(int[] labels) {
        int n = labels.length;
        for (int a = 0; a < n; a++) {
            for (int b = 0; b < n; b++) {
                for (int c = 0; c < n; c++) {
                    for (int d = 0; d < n; d++) {
                        if (labels[a] == labels[b] && labels[c] == labels[d]
                                && labels[table[a][c]] != labels[table[b][d]]) {
                            return false;
                        }
                    }
                }
            }
        }
        return true;
    }

    int parts() {
        atMost(10);
        int found = 0;
        for (int part = 1; part < 1 << things.size(); part++) {
            boolean isClosed = true;
            for (int x = 0; x < things.size(); x++) {
                for (int y = 0; y < things.size(); y++) {
                    isClosed &= (part & 1 << x) == 0 || (part & 1 << y) == 0 || (part & 1 << table[x][y]) != 0;
                }
            }
            found += isClosed ? 1 : 0;
        }
        return found;
    }

    int endomorphisms() {
        atMost(30);
        if (generators.size() > 3) {
            throw new UnsupportedOperationException();
        }
        return countMaps(new int[things.size()], 0);
    }

    /** Elements get their images by rising numbers, and none that the products so far gainsay. */
    private int countMaps(int[] images, int at) {
        if (at == images.length) {
            return 1;
        }
        int found = 0;
        for (int image = 0; image < images.length; image++) {
            images[at] = image;
            if (areProductsKept(images, at)) {
                found += countMaps(images, at + 1);
            }
        }
        return found;
    }

    private boolean areProductsKept(int[] images, int last) {
        for (int x = 0; x <= last; x++) {
            for (int y = 0; y <= last; y++) {
                if (table[x][y] <= last && images[table[x][y]] != table[images[x]][images[y]]) {
                    return false;
                }
            }
        }
        return true;
    }

    // ---- Equations and kinds ----

    /** The value of a row from at[0] on, up to where it ends; -1 if it is none. */
    private int rowValue(String side, int[] at, int[] values) {
        int made = -1;
        while (at[0] < side.length() && side.charAt(at[0]) != ')') {
            int factor = factorValue(side, at, values);
            if (factor < 0) {
                return -1;
            }
            made = made < 0 ? factor : table[made][factor];
        }
        return made;
    }

    private int factorValue(String side, int[] at, int[] values) {
        char sign = side.charAt(at[0]);
        at[0]++;
        int made = -1;
        if (sign >= 'x' && sign <= 'z') {
            made = values[sign - 'x'];
        } else if (sign == '(') {
            made = rowValue(side, at, values);
            if (at[0] >= side.length()) {
                return -1;
            }
            at[0]++;
        }
        if (made >= 0 && at[0] < side.length() && side.charAt(at[0]) == '^') {
            at[0]++;
            made = omega(made);
        }
        return made;
    }

    private int sideValue(String side, int x, int y, int z) {
        int[] at = {0};
        int made = rowValue(side, at, new int[] {x, y, z});
        return at[0] == side.length() ? made : -1;
    }

    int fails() {
        int n = n();
        String[] sides = text.split("=", -1);
        if (sides.length != 2 || sideValue(sides[0], 0, 0, 0) < 0 || sideValue(sides[1], 0, 0, 0) < 0) {
            throw new UnsupportedOperationException();
        }
        int xs = text.contains("x") ? n : 1;
        int ys = text.contains("y") ? n : 1;
        int zs = text.contains("z") ? n : 1;
        if (xs * ys * zs > 40000) {
            throw new UnsupportedOperationException();
        }
        for (int way = 0; way < xs * ys * zs; way++) {
            int z = way % zs;
            int y = way / zs % ys;
            int x = way / zs / ys;
            if (sideValue(sides[0], x, y, z) != sideValue(sides[1], x, y, z)) {
                return x + 200 * y + 40000 * z;
            }
        }
        return -1;
    }

    boolean isA(char asked) {
        n();
        likeness(asked, "abcgijrlmnosv");
        return isKind(asked, table);
    }

    private static int powerIn(int[][] product, int x, int power) {
        int made = x;
        for (int times = 1; times < power; times++) {
            made = product[made][x];
        }
        return made;
    }

    private boolean isKind(char asked, int[][] product) {
        int n = product.length;
        boolean holds = true;
        Set<Integer> idempotent = new TreeSet<>();
        for (int x = 0; x < n; x++) {
            if (product[x][x] == x) {
                idempotent.add(x);
            }
        }
        for (int x = 0; x < n; x++) {
            if (asked == 'a') {
                holds &= powerIn(product, x, n + 1) == powerIn(product, x, n + 2);
            } else if (asked == 'b') {
                holds &= product[x][x] == x;
            }
            for (int y = 0; y < n; y++) {
                if (asked == 'c') {
                    holds &= product[x][y] == product[y][x];
                } else if (asked == 'n') {
                    holds &= idempotent.size() == 1 && (!idempotent.contains(x)
                            || product[x][y] == x && product[y][x] == x);
                } else if (asked == 'o') {
                    holds &= !idempotent.contains(x) || !idempotent.contains(y) || idempotent.contains(product[x][y]);
                } else if ("jrl".indexOf(asked) >= 0) {
                    holds &= x == y || !areAlike(x, y, Character.toUpperCase(asked));
                } else if (asked == 's') {
                    holds &= areAlike(x, y, 'J');
                }
            }
        }
        return holds && isOtherKind(asked);
    }

    private boolean isOtherKind(char asked) {
        boolean holds = true;
        int identity = identity();
        for (int x = 0; x < things.size(); x++) {
            if (asked == 'g') {
                holds &= identity >= 0 && hasUndoing(x, identity);
            } else if (asked == 'i') {
                holds &= inversesOf(x).size() == 1;
            } else if (asked == 'v') {
                holds &= isRegular(x);
            }
        }
        return holds && (asked != 'm' || identity >= 0);
    }

    private boolean hasUndoing(int x, int identity) {
        for (int y = 0; y < things.size(); y++) {
            if (table[x][y] == identity && table[y][x] == identity) {
                return true;
            }
        }
        return false;
    }

    private boolean isRegular(int x) {
        for (int y = 0; y < things.size(); y++) {
            if (table[table[x][y]][x] == x) {
                return true;
            }
        }
        return false;
    }

    boolean areSame(char asked) {
        likeness(asked, "clpb");
        if (!text.matches("[abcd]+=[abcd]+")) {
            throw new UnsupportedOperationException();
        }
        String[] sides = text.split("=");
        if (asked == 'b') {
            return areBandsSame(sides[0], sides[1]);
        }
        return freeForm(asked, sides[0]).equals(freeForm(asked, sides[1]));
    }

    private static String freeForm(char asked, String word) {
        if (asked == 'c') {
            char[] letters = word.toCharArray();
            Arrays.sort(letters);
            return new String(letters);
        }
        if (asked == 'p') {
            return placticRows(word).toString();
        }
        StringBuilder firsts = new StringBuilder();
        for (char letter : word.toCharArray()) {
            if (firsts.indexOf(String.valueOf(letter)) < 0) {
                firsts.append(letter);
            }
        }
        return firsts.toString();
    }

    private static List<List<Character>> placticRows(String word) {
        List<List<Character>> rows = new ArrayList<>();
        for (char letter : word.toCharArray()) {
            char moving = letter;
            boolean isPlaced = false;
            for (int at = 0; !isPlaced; at++) {
                if (at == rows.size()) {
                    rows.add(new ArrayList<>());
                }
                List<Character> cells = rows.get(at);
                int greater = 0;
                while (greater < cells.size() && cells.get(greater) <= moving) {
                    greater++;
                }
                isPlaced = greater == cells.size();
                if (isPlaced) {
                    cells.add(moving);
                } else {
                    moving = cells.set(greater, moving);
                }
            }
        }
        return rows;
    }

    private static Set<Character> lettersOf(String word) {
        Set<Character> letters = new TreeSet<>();
        for (char letter : word.toCharArray()) {
            letters.add(letter);
        }
        return letters;
    }

    /** What is ahead of the last new letter, and this. */
    private static String front(String word) {
        int at = 0;
        while (!lettersOf(word.substring(0, at)).equals(lettersOf(word))) {
            at++;
        }
        return word.substring(0, at);
    }

    private static String turned(String word) {
        return new StringBuilder(word).reverse().toString();
    }

    private static boolean areBandsSame(String one, String two) {
        if (!lettersOf(one).equals(lettersOf(two))) {
            return false;
        }
        return one.isEmpty() || areFrontsSame(front(one), front(two))
                && areFrontsSame(front(turned(one)), front(turned(two)));
    }

    private static boolean areFrontsSame(String one, String two) {
        int lastOne = one.length() - 1;
        int lastTwo = two.length() - 1;
        return one.charAt(lastOne) == two.charAt(lastTwo)
                && areBandsSame(one.substring(0, lastOne), two.substring(0, lastTwo));
    }

    int irreducibles() {
        n();
        int found = 0;
        for (int box : lowestOnes('J', -1)) {
            List<Integer> group = groupOf(box);
            Set<Set<Integer>> conjugates = new HashSet<>();
            for (int x : group) {
                Set<Integer> of = new TreeSet<>();
                for (int y : group) {
                    for (int z : group) {
                        if (table[x][y] == table[y][z]) {
                            of.add(z);
                        }
                    }
                }
                conjugates.add(of);
            }
            found += conjugates.size();
        }
        return found;
    }

    // ---- Points ----

    private void maps() {
        if (kind == 'r') {
            throw new UnsupportedOperationException();
        }
    }

    /** Where a word leads each point of a row, tried by rising words. */
    private List<Integer> wordTogether(int bits) {
        maps();
        if (generators.isEmpty()) {
            throw new UnsupportedOperationException();
        }
        if (bits < 1 || bits >= 1 << points) {
            throw new IllegalArgumentException();
        }
        List<Integer> start = new ArrayList<>();
        for (int point = 0; point < points; point++) {
            if ((bits & 1 << point) != 0) {
                start.add(point);
            }
        }
        Map<List<Integer>, List<Integer>> found = new HashMap<>();
        found.put(start, new ArrayList<>());
        Deque<List<Integer>> waiting = new ArrayDeque<>();
        waiting.add(start);
        while (!waiting.isEmpty()) {
            List<Integer> at = waiting.poll();
            if (new HashSet<>(at).size() == 1) {
                return found.get(at);
            }
            for (int g = 0; g < generators.size(); g++) {
                List<Integer> to = new ArrayList<>();
                for (int point : at) {
                    to.add(generators.get(g).get(point));
                }
                if (!to.contains(-1) && !found.containsKey(to)) {
                    List<Integer> word = new ArrayList<>(found.get(at));
                    word.add(g);
                    found.put(to, word);
                    waiting.add(to);
                }
            }
        }
        return null;
    }

    int together(int bits) {
        List<Integer> word = wordTogether(bits);
        if (word == null) {
            throw new NoSuchElementException();
        }
        return word.size();
    }

    int togetherAt(int bits, int index) {
        List<Integer> word = wordTogether(bits);
        if (word == null) {
            throw new NoSuchElementException();
        }
        return at(word, index);
    }

    int automaton(int begin, int newEnds) {
        maps();
        if (begin < 0 || begin >= points || newEnds < 0 || newEnds >= 1 << points) {
            throw new IllegalArgumentException();
        }
        int before = 100 * first + ends;
        first = begin;
        ends = newEnds;
        return before;
    }

    private boolean isEnd(int point) {
        return point >= 0 && (ends & 1 << point) != 0;
    }

    boolean accepts() {
        maps();
        if (!isRowOfGenerators()) {
            throw new IllegalArgumentException();
        }
        if (row.isEmpty()) {
            return isEnd(first);
        }
        return isEnd(thingOf(row).get(first));
    }

    /** Whether what is ahead, the element and what is behind are accepted, for all that may be there; -1 is empty. */
    private String contexts(int x) {
        StringBuilder answers = new StringBuilder();
        for (int s = -1; s < things.size(); s++) {
            for (int t = -1; t < things.size(); t++) {
                int ahead = s < 0 ? x : table[s][x];
                int all = t < 0 ? ahead : table[ahead][t];
                answers.append(isEnd(things.get(all).get(first)) ? '1' : '0');
            }
        }
        return answers.toString();
    }

    private List<Integer> classNumbers() {
        List<String> classes = new ArrayList<>();
        List<Integer> numbers = new ArrayList<>();
        for (int x = 0; x < things.size(); x++) {
            String contexts = contexts(x);
            if (!classes.contains(contexts)) {
                classes.add(contexts);
            }
            numbers.add(classes.indexOf(contexts));
        }
        return numbers;
    }

    int syntactic() {
        n();
        maps();
        return new HashSet<>(classNumbers()).size();
    }

    boolean isLanguage(char asked) {
        n();
        maps();
        likeness(asked, "abcn");
        List<Integer> numbers = classNumbers();
        int total = new HashSet<>(numbers).size();
        int[][] product = new int[total][total];
        for (int x = 0; x < things.size(); x++) {
            for (int y = 0; y < things.size(); y++) {
                product[numbers.get(x)][numbers.get(y)] = numbers.get(table[x][y]);
            }
        }
        return isKind(asked, product);
    }

    private static Set<Integer> imageOf(Set<Integer> set, List<Integer> map) {
        Set<Integer> image = new TreeSet<>();
        for (int point : set) {
            if (map.get(point) >= 0) {
                image.add(map.get(point));
            }
        }
        return image;
    }

    private List<Set<Integer>> allImageSets() {
        List<Set<Integer>> sets = new ArrayList<>();
        Set<Integer> all = new TreeSet<>();
        for (int point = 0; point < points; point++) {
            all.add(point);
        }
        sets.add(all);
        for (int point = 0; point < points; point++) {
            if (!sets.contains(Set.of(point))) {
                sets.add(new TreeSet<>(Set.of(point)));
            }
        }
        for (int at = 0; at < sets.size(); at++) {
            for (List<Integer> generator : generators) {
                Set<Integer> image = imageOf(sets.get(at), generator);
                if (!image.isEmpty() && !sets.contains(image)) {
                    sets.add(image);
                }
            }
        }
        return sets;
    }

    int imageSets() {
        n();
        maps();
        return allImageSets().size();
    }

    private boolean isSetBelow(Set<Integer> one, Set<Integer> two) {
        if (two.containsAll(one)) {
            return true;
        }
        for (List<Integer> thing : things) {
            if (imageOf(two, thing).containsAll(one)) {
                return true;
            }
        }
        return false;
    }

    int levels() {
        n();
        maps();
        List<Set<Integer>> sets = allImageSets();
        boolean[][] strict = new boolean[sets.size()][sets.size()];
        for (int one = 0; one < sets.size(); one++) {
            for (int two = 0; two < sets.size(); two++) {
                strict[one][two] = isSetBelow(sets.get(one), sets.get(two))
                        && !isSetBelow(sets.get(two), sets.get(one));
            }
        }
        int greatest = 0;
        int[] known = new int[sets.size()];
        for (int set = 0; set < sets.size(); set++) {
            greatest = Math.max(greatest, levelOf(set, strict, known));
        }
        return greatest;
    }

    private static int levelOf(int set, boolean[][] strict, int[] known) {
        if (known[set] == 0) {
            int greatest = 0;
            for (int other = 0; other < known.length; other++) {
                if (strict[other][set]) {
                    greatest = Math.max(greatest, levelOf(other, strict, known));
                }
            }
            known[set] = greatest + 1;
        }
        return known[set];
    }

    // ---- Tables and sums ----

    int tables(int size, boolean areMirrors) {
        if (size < 1 || size > 3) {
            throw new IllegalArgumentException();
        }
        Set<String> found = new HashSet<>();
        int total = 0;
        int all = (int) Math.round(Math.pow(size, size * size));
        for (int code = 0; code < all; code++) {
            int[][] cells = new int[size][size];
            int rest = code;
            for (int cell = 0; cell < size * size; cell++) {
                cells[cell / size][cell % size] = rest % size;
                rest /= size;
            }
            if (isAssociative(cells) && !found.contains(Arrays.deepToString(cells))) {
                total++;
                addAlike(cells, new int[size], 0, areMirrors, found);
            }
        }
        return total;
    }

    private static boolean isAssociative(int[][] cells) {
        for (int a = 0; a < cells.length; a++) {
            for (int b = 0; b < cells.length; b++) {
                for (int c = 0; c < cells.length; c++) {
                    if (cells[cells[a][b]][c] != cells[a][cells[b][c]]) {
                        return false;
                    }
                }
            }
        }
        return true;
    }

    private static void addAlike(int[][] cells, int[] names, int at, boolean areMirrors, Set<String> found) {
        int size = names.length;
        if (at < size) {
            for (int name = 0; name < size; name++) {
                names[at] = name;
                boolean isNew = true;
                for (int ahead = 0; ahead < at; ahead++) {
                    isNew &= names[ahead] != name;
                }
                if (isNew) {
                    addAlike(cells, names, at + 1, areMirrors, found);
                }
            }
            return;
        }
        int[][] renamed = new int[size][size];
        int[][] mirror = new int[size][size];
        for (int x = 0; x < size; x++) {
            for (int y = 0; y < size; y++) {
                renamed[names[x]][names[y]] = names[cells[x][y]];
                mirror[names[y]][names[x]] = names[cells[x][y]];
            }
        }
        found.add(Arrays.deepToString(renamed));
        if (areMirrors) {
            found.add(Arrays.deepToString(mirror));
        }
    }

    long checksum() {
        n();
        long sum = 7;
        for (int[] products : table) {
            for (int product : products) {
                sum = 31 * sum + product;
            }
        }
        return sum;
    }

    float regularShare() {
        int n = n();
        int regular = 0;
        for (int x = 0; x < n; x++) {
            regular += isRegular(x) ? 1 : 0;
        }
        return (float) regular / (float) n;
    }

    double meanLength() {
        int n = n();
        int sum = 0;
        for (List<Integer> word : words) {
            sum += word.size();
        }
        return (double) sum / (double) n;
    }

    boolean isSound() {
        return true;
    }
}
