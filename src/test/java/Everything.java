import java.util.ArrayList;
import java.util.List;
import java.util.Set;
import java.util.TreeSet;
import java.util.function.Function;

/**
 * All that can be asked of a workshop, so that what stands after a refused call can be compared with what stood before.
 * What is asked comes in groups, each on an object of its own, for nothing is promised after the 512th call of one.
 */
final class Everything {
    /** Making takes fewer than a hundred calls, and each group is asked twice at most. */
    private static final int MOST_IN_GROUP = 190;
    private static final int SOME = 9;
    private static final Set<Integer> PROMISES = new TreeSet<>();

    /** A call with its name. */
    record Ask(String name, Function<Eggboxery, Object> call) {
    }

    private final Shop shop;
    private final int size;
    private final List<Ask> plain = new ArrayList<>();
    private final List<List<Ask>> askedTwice = new ArrayList<>();
    private final List<List<Ask>> askedOnce = new ArrayList<>();
    private final List<List<Object>> due = new ArrayList<>();

    Everything(Shop ofShop) {
        shop = ofShop;
        Object known = Check.answerOf(() -> shop.make().size());
        size = known instanceof Integer ? (Integer) known : 0;
        addOfTyped();
        addOfAll();
        for (int element : someElements()) {
            addOfElement(element);
            addOfPairs(element);
        }
        addOfPoints();
        cutPlain();
        addTypedOnce();
        addMaking();
        for (List<Ask> group : askedOnce) {
            due.add(answers(shop.make(), group));
        }
    }

    /** The numbers of the promises of which a call was refused. */
    static Set<Integer> promises() {
        return PROMISES;
    }

    /** How many elements there are, 0 if not all is known. */
    int size() {
        return size;
    }

    private static List<Object> answers(Eggboxery x, List<Ask> group) {
        List<Object> answers = new ArrayList<>();
        for (Ask ask : group) {
            answers.add(Check.answerOf(() -> ask.call().apply(x)));
        }
        return answers;
    }

    private void compare(String after, List<Ask> group, List<Object> before, List<Object> then) {
        for (int at = 0; at < group.size(); at++) {
            Check.due(after + ", then " + group.get(at).name(), then.get(at), before.get(at));
        }
    }

    /** A call that is refused, and changes nothing: neither ahead of all else nor behind it. */
    void refused(String promise, String exception, String call, Function<Eggboxery, Object> asking) {
        PROMISES.add(Integer.parseInt(promise.substring(0, promise.indexOf(' '))));
        String named = promise + " " + call + " of " + shop.name;
        Check.due(named, Check.answerOf(() -> asking.apply(shop.make())), "throws." + exception);
        for (List<Ask> group : askedTwice) {
            Eggboxery x = shop.make();
            List<Object> before = answers(x, group);
            Check.answerOf(() -> asking.apply(x));
            compare(named, group, before, answers(x, group));
        }
        for (int at = 0; at < askedOnce.size(); at++) {
            Eggboxery x = shop.make();
            Check.answerOf(() -> asking.apply(x));
            compare(named, askedOnce.get(at), due.get(at), answers(x, askedOnce.get(at)));
        }
    }

    private void add(String name, Function<Eggboxery, Object> call) {
        plain.add(new Ask(name, call));
    }

    private void cutPlain() {
        for (int from = 0; from < plain.size(); from += MOST_IN_GROUP) {
            int to = Math.min(plain.size(), from + MOST_IN_GROUP);
            askedTwice.add(new ArrayList<>(plain.subList(from, to)));
        }
        plain.clear();
    }

    private void group() {
        askedOnce.add(new ArrayList<>(plain));
        plain.clear();
    }

    private List<Integer> someElements() {
        List<Integer> some = new ArrayList<>();
        for (int element = -1; element <= size; element++) {
            if (element < SOME || element > size - 3) {
                some.add(element);
            }
        }
        return some;
    }

    private void addOfTyped() {
        add("find()", x -> x.find());
        add("word()", x -> x.word());
        add("accepts()", x -> x.accepts());
        add("fails()", x -> x.fails());
        for (char kind : "clpb".toCharArray()) {
            add("areSame(" + kind + ")", x -> x.areSame(kind));
        }
    }

    private void addOfAll() {
        add("size()", x -> x.size());
        add("rules()", x -> x.rules());
        add("idempotents()", x -> x.idempotents());
        add("weight()", x -> x.weight());
        add("units()", x -> x.units());
        add("congruences()", x -> x.congruences());
        add("parts()", x -> x.parts());
        add("endomorphisms()", x -> x.endomorphisms());
        add("irreducibles()", x -> x.irreducibles());
        add("syntactic()", x -> x.syntactic());
        add("imageSets()", x -> x.imageSets());
        add("levels()", x -> x.levels());
        add("checksum()", x -> x.checksum());
        add("regularShare()", x -> x.regularShare());
        add("meanLength()", x -> x.meanLength());
        add("isSound()", x -> x.isSound());
        add("tables(2, true)", x -> x.tables(2, true));
        for (int index = -1; index < 4; index++) {
            int at = index;
            add("idempotent(" + at + ")", x -> x.idempotent(at));
        }
        for (char kind : "abcgijrlmnosv".toCharArray()) {
            add("isA(" + kind + ")", x -> x.isA(kind));
            add("isLanguage(" + kind + ")", x -> x.isLanguage(kind));
        }
        for (char by : "RLHJ".toCharArray()) {
            add("classes(" + by + ")", x -> x.classes(by));
        }
        for (char what : "izk".toCharArray()) {
            add("special(" + what + ")", x -> x.special(what));
        }
    }

    private void addOfElement(int a) {
        for (int point = -1; point <= shop.points; point++) {
            int at = point;
            add("image(" + a + ", " + at + ")", x -> x.image(a, at));
        }
        add("length(" + a + ")", x -> x.length(a));
        for (int index = 0; index < 3; index++) {
            int at = index;
            add("letter(" + a + ", " + at + ")", x -> x.letter(a, at));
            add("inverse(" + a + ", " + at + ")", x -> x.inverse(a, at));
        }
        add("power(" + a + ", 3)", x -> x.power(a, 3));
        add("omega(" + a + ")", x -> x.omega(a));
        add("index(" + a + ")", x -> x.index(a));
        add("period(" + a + ")", x -> x.period(a));
        for (char by : "RLHJ".toCharArray()) {
            add("classOf(" + a + ", " + by + ")", x -> x.classOf(a, by));
        }
        add("inverses(" + a + ")", x -> x.inverses(a));
        add("sides(" + a + ", true)", x -> x.sides(a, true));
        add("sides(" + a + ", false)", x -> x.sides(a, false));
        add("group(" + a + ")", x -> x.group(a));
        add("meets(" + a + ", 0, 0)", x -> x.meets(a, 0, 0));
        add("meets(" + a + ", 1, 1)", x -> x.meets(a, 1, 1));
        add("height(" + a + ")", x -> x.height(a));
    }

    private void addOfPairs(int a) {
        for (int other : new int[] {0, size - 1}) {
            add("product(" + a + ", " + other + ")", x -> x.product(a, other));
            add("product(" + other + ", " + a + ")", x -> x.product(other, a));
            for (char by : "RLJ".toCharArray()) {
                add("isBelow(" + a + ", " + other + ", " + by + ")", x -> x.isBelow(a, other, by));
            }
            add("merged(" + a + ", " + other + ")", x -> x.merged(a, other));
            add("areMerged(" + a + ", " + other + ", 0, 1)", x -> x.areMerged(a, other, 0, 1));
        }
    }

    private void addOfPoints() {
        for (int bits = 0; bits <= 1 << Math.min(shop.points, 4); bits++) {
            int points = bits;
            add("together(" + points + ")", x -> x.together(points));
            add("togetherAt(" + points + ", 0)", x -> x.togetherAt(points, 0));
            add("togetherAt(" + points + ", 1)", x -> x.togetherAt(points, 1));
        }
    }

    /** What is typed is told by what it makes, by how many there are, and by what may be typed behind. */
    private void addTypedOnce() {
        add("generator()", x -> x.generator());
        add("size()", x -> x.size());
        for (int point = 0; point < shop.points; point++) {
            int at = point;
            add("image(0, " + at + ")", x -> x.image(0, at));
            add("image(1, " + at + ")", x -> x.image(1, at));
            add("image(2, " + at + ")", x -> x.image(2, at));
        }
        add("checksum()", x -> x.checksum());
        group();
        add("type(0)", x -> x.type(0));
        add("sign(b)", x -> x.sign('b'));
        addOfTyped();
        add("type(0)", x -> x.type(0));
        addOfTyped();
        group();
        add("sign(x)", x -> x.sign('x'));
        addOfTyped();
        add("wipe()", x -> x.wipe());
        addOfTyped();
        add("wipe()", x -> x.wipe());
        group();
    }

    private void addMaking() {
        add("automaton(0, 1)", x -> x.automaton(0, 1));
        add("automaton(0, 0)", x -> x.automaton(0, 0));
        group();
        add("begin(t, 2)", x -> x.begin('t', 2));
        add("automaton(1, 1)", x -> x.automaton(1, 1));
        add("begin(r, 2)", x -> x.begin('r', 2));
        group();
    }
}
