import java.util.ArrayList;
import java.util.Arrays;
import java.util.HashMap;
import java.util.List;
import java.util.Map;
import java.util.TreeMap;
import java.util.TreeSet;

// Long runs of mixed calls, each answer compared with that of a model that keeps to the document's words
// by other means than the class: unions of all states, all pairs, whole ways, rows of real bytes and shorts.
public final class PlainModelTest {
    private static final int RUNS = 600;
    // With the digest and the finding looked at after each 16th, an object is used for 504 calls: 512 are promised.
    private static final int CALLS = 448;

    private static final String[] NAMES = {
        "item", "other", "hours", "about", "served", "states", "state", "at", "top", "next",
        "last", "core", "reason", "test", "left", "ask", "answer", "unsure", "likely", "weight",
        "weights", "worst", "cost", "way", "ways", "learn", "use", "pass", "pupil", "sheet",
        "lose", "put", "get", "copy", "nearest", "far", "base", "atom", "misfit", "odd",
        "seen", "common", "judge", "count", "digest"};

    private static long dice;
    private static int wrong = 0;

    /** 0 to n - 1, the same row of numbers in each run of this test. */
    private static int roll(int n) {
        dice = dice * 6364136223846793005L + 1442695040888963407L;
        return (int) Long.remainderUnsigned(dice >>> 33, n);
    }

    private static int wild() {
        int[] edges = {-1, -2, 4095, 4096, 8191, Integer.MAX_VALUE, Integer.MIN_VALUE, 40, 41, 100, 101, 12, 13};
        return edges[roll(edges.length)];
    }

    private static boolean seldom() {
        return roll(25) == 0;
    }

    private static int anItem(Plain p) {
        return seldom() ? wild() : roll(p.size() + (roll(20) == 0 ? 2 : 0) + (p.size() == 0 ? 1 : 0));
    }

    private static int aSet(Plain p) {
        return seldom() ? wild() : roll(1 << p.size());
    }

    private static int aState(Plain p) {
        if (roll(8) == 0) {
            return aSet(p);
        }
        List<Integer> all = p.all();
        return all.get(roll(all.size()));
    }

    private static int aSheet() {
        return seldom() ? wild() : roll(4);
    }

    private static int aForm(Plain p, int s) {
        return s >= 0 && s < 4 && p.rows[s] != null && roll(10) != 0 ? p.formOf(s) : roll(roll(10) == 0 ? 5 : 3);
    }

    private static int aMark(Plain p, int s) {
        int n = s >= 0 && s < 4 && p.rows[s] != null ? p.lengthOf(s) : 0;
        return roll(20) == 0 ? wild() : roll(n + 1);
    }

    /** A set of few items, so that most of what needs it can be come to. */
    private static int someNeeds(int most) {
        if (roll(30) == 0) {
            return wild();
        }
        int set = 0;
        for (int i = roll(3); i > 0; i--) {
            set |= 1 << roll(most);
        }
        return set;
    }

    private static int[] argumentsOfItem(int most) {
        int kind = seldom() ? wild() : new int[] {0, 0, 1, 1, 2, 2, 3, 3, 4}[roll(9)];
        int extra = kind == 2 ? roll(3) : kind == 3 ? 1 + roll(6) : 0;
        int needs = kind == 4 ? 0 : someNeeds(most);
        return new int[] {kind, seldom() ? wild() : needs, seldom() ? wild() : extra};
    }

    private static int[] argumentsOf(String name, Plain p, int most) {
        int s = aSheet();
        switch (name) {
            case "item": return argumentsOfItem(most);
            case "other": return new int[] {anItem(p), someNeeds(most)};
            case "hours": return new int[] {anItem(p), seldom() ? wild() : roll(8) * roll(3)};
            case "about": return new int[] {anItem(p), seldom() ? wild() : roll(6)};
            case "served": case "reason": return new int[] {anItem(p), aSet(p)};
            case "state": case "core": case "nearest": return new int[] {aSet(p)};
            case "at": return new int[] {seldom() ? wild() : roll(p.all().size() + 1)};
            case "next": case "last": case "ways": case "pupil": case "weight": return new int[] {aState(p)};
            case "test": return new int[] {seldom() ? wild() : roll(4) * roll(34), seldom() ? wild() : roll(4) * roll(34)};
            case "answer": case "unsure": return new int[] {anItem(p), roll(2)};
            case "cost": return new int[] {aState(p), aSet(p) & (roll(3) == 0 ? -1 : aSet(p))};
            case "way": return new int[] {aState(p), aSet(p) & (roll(3) == 0 ? -1 : aSet(p)), seldom() ? wild() : roll(6)};
            case "learn": case "use": return new int[] {anItem(p)};
            case "pass": return new int[] {seldom() ? wild() : roll(4)};
            case "sheet": return new int[] {s, roll(roll(10) == 0 ? 5 : 3), seldom() ? wild() : roll(roll(3) == 0 ? 41 : 6)};
            case "lose": return new int[] {s};
            case "put": return new int[] {s, aForm(p, s), aMark(p, s), roll(5) == 0 ? (roll(1 << 30) << roll(3)) - roll(99) : aSet(p)};
            case "get": return new int[] {s, aForm(p, s), aMark(p, s)};
            case "copy": return argumentsOfCopy(p, s);
            case "far": return new int[] {aSet(p), aSet(p)};
            case "base": return new int[] {seldom() ? wild() : roll(p.size() + 2)};
            case "atom": return new int[] {anItem(p), seldom() ? wild() : roll(4)};
            case "misfit": case "common": return new int[] {s};
            case "odd": return new int[] {s, anItem(p), seldom() ? wild() : roll(2)};
            case "seen": return new int[] {s, anItem(p), seldom() ? wild() : roll(4)};
            case "judge": return new int[] {s, aMark(p, s)};
            case "count": return new int[] {seldom() ? wild() : roll(8)};
            default: return new int[0];
        }
    }

    private static int[] argumentsOfCopy(Plain p, int s) {
        int t = roll(3) == 0 ? s : aSheet();
        return new int[] {s, aMark(p, s), t, aMark(p, t), seldom() ? wild() : roll(4)};
    }

    private static long ask(LessonWays x, String name, int[] a) {
        switch (name) {
            case "item": return x.item(a[0], a[1], a[2]);
            case "other": return x.other(a[0], a[1]);
            case "hours": return x.hours(a[0], a[1]);
            case "about": return x.about(a[0], a[1]);
            case "served": return x.served(a[0], a[1]);
            case "states": return x.states();
            case "state": return x.state(a[0]);
            case "at": return x.at(a[0]);
            case "top": return x.top();
            case "next": return x.next(a[0]);
            case "last": return x.last(a[0]);
            case "core": return x.core(a[0]);
            case "reason": return x.reason(a[0], a[1]);
            case "test": return x.test(a[0], a[1]);
            case "left": return x.left();
            case "ask": return x.ask();
            case "answer": return x.answer(a[0], a[1] == 1);
            case "unsure": return x.unsure(a[0], a[1] == 1);
            case "likely": return x.likely();
            case "weight": return x.weight(a[0]);
            case "weights": return x.weights();
            case "worst": return x.worst();
            default: return askMore(x, name, a);
        }
    }

    private static long askMore(LessonWays x, String name, int[] a) {
        switch (name) {
            case "cost": return x.cost(a[0], a[1]);
            case "way": return x.way(a[0], a[1], a[2]);
            case "ways": return x.ways(a[0]);
            case "learn": return x.learn(a[0]);
            case "use": return x.use(a[0]);
            case "pass": return x.pass(a[0]);
            case "pupil": return x.pupil(a[0]);
            case "sheet": return x.sheet(a[0], a[1], a[2]);
            case "lose": return x.lose(a[0]);
            case "put": return x.put(a[0], a[1], a[2], a[3]);
            case "get": return x.get(a[0], a[1], a[2]);
            case "copy": return x.copy(a[0], a[1], a[2], a[3], a[4]);
            case "nearest": return x.nearest(a[0]);
            case "far": return x.far(a[0], a[1]);
            case "base": return x.base(a[0]);
            case "atom": return x.atom(a[0], a[1]);
            case "misfit": return x.misfit(a[0]);
            case "odd": return x.odd(a[0], a[1], a[2]);
            case "seen": return x.seen(a[0], a[1], a[2]);
            case "common": return x.common(a[0]);
            case "judge": return x.judge(a[0], a[1]);
            case "count": return x.count(a[0]);
            default: return x.digest();
        }
    }

    /** Items first, then mixed calls; a change of items comes again now and then. */
    private static String nameOfCall(int call, int most, Plain p) {
        if (call < 2 * most && p.size() < most) {
            return "item";
        }
        if (call < 3 * most && roll(2) == 0) {
            return "other";
        }
        String name = NAMES[roll(NAMES.length)];
        boolean change = name.equals("item") || name.equals("other");
        return change && (roll(20) != 0 || p.size() >= most && most < 12) ? "learn" : name;
    }

    private static void run(int number) {
        dice = 1000003L * number + 17;
        int most = number % 15 == 0 ? 12 : 1 + roll(8);
        LessonWays x = new LessonWays();
        Plain p = new Plain();
        for (int call = 0; call < CALLS; call++) {
            String name = nameOfCall(call, most, p);
            if (most == 12 && p.all().size() > 300 && name.equals("base")) {
                name = "digest";
            }
            int[] a = argumentsOf(name, p, most);
            long want = p.ask(name, a);
            long got = ask(x, name, a);
            long wantDigest = call % 16 == 0 ? p.digest() + 31 * p.finding : 0;
            long gotDigest = call % 16 == 0 ? x.digest() + 31 * x.count(7) : 0;
            if (got != want || gotDigest != wantDigest) {
                wrong++;
                System.out.println("run " + number + ", call " + call + ": " + name + Arrays.toString(a) + " answered " + got
                    + ", due is " + want + (gotDigest == wantDigest ? "" : "; and the digest is not as due"));
                return;
            }
        }
    }

    public static void main(String[] args) {
        int runs = args.length > 0 ? Integer.parseInt(args[0]) : RUNS;
        for (int number = 0; number < runs; number++) {
            run(number);
        }
        System.out.println(wrong == 0 ? "all runs answer as the plain model" : wrong + " runs do not answer as the plain model");
        if (wrong != 0) {
            System.exit(1);
        }
    }

    private record Thing(int kind, int needs, int extra, List<Integer> others) { }

    private static final class Plain {
        private final List<Thing> things = new ArrayList<>();
        private final List<Integer> hours = new ArrayList<>();
        private TreeSet<Integer> states = new TreeSet<>(List.of(0));
        private TreeMap<Integer, Long> weights = new TreeMap<>(Map.of(0, 1L));
        private int luck, slip, unsure;
        private int known, day, lost;
        private final Map<Integer, Integer> used = new HashMap<>();
        private final Object[] rows = new Object[4];
        private int finding;

        int size() {
            return things.size();
        }

        List<Integer> all() {
            return new ArrayList<>(states);
        }

        // ---- the terms

        private boolean noItem(int i) {
            return i < 0 || i >= size();
        }

        private boolean noSet(int set) {
            return set < 0 || set >> size() != 0;
        }

        private static boolean within(int part, int whole) {
            return (part | whole) == whole;
        }

        private boolean isServed(int item, int set) {
            if (within(things.get(item).needs(), set)) {
                return true;
            }
            for (int wanted : things.get(item).others()) {
                if (within(wanted, set)) {
                    return true;
                }
            }
            return false;
        }

        private int lessonWith(int item) {
            Thing it = things.get(item);
            int lesson = 1 << item;
            for (int i = 0; i < size(); i++) {
                if (it.kind() == 2 && things.get(i).kind() == 2 && things.get(i).extra() == it.extra()) {
                    lesson |= 1 << i;
                }
            }
            return lesson;
        }

        private TreeSet<Integer> lessons() {
            TreeSet<Integer> lessons = new TreeSet<>();
            for (int i = 0; i < size(); i++) {
                lessons.add(lessonWith(i));
            }
            return lessons;
        }

        private boolean fits(int lesson, int set) {
            if ((lesson & set) != 0) {
                return false;
            }
            for (int i = 0; i < size(); i++) {
                if ((lesson >> i & 1) == 1 && !isServed(i, lesson | set)) {
                    return false;
                }
            }
            return true;
        }

        private int bottom() {
            int bottom = 0;
            for (int i = 0; i < size(); i++) {
                bottom += things.get(i).kind() == 4 ? 1 << i : 0;
            }
            return bottom;
        }

        private void change() {
            states = new TreeSet<>();
            List<Integer> open = new ArrayList<>(List.of(bottom()));
            while (!open.isEmpty()) {
                int set = open.remove(open.size() - 1);
                if (states.add(set)) {
                    for (int lesson : lessons()) {
                        if (fits(lesson, set)) {
                            open.add(set | lesson);
                        }
                    }
                }
            }
            newTest(0, 0);
            newPupil(bottom());
        }

        private int lastSet(int set) {
            int all = 0;
            for (int lesson : lessons()) {
                if (within(lesson, set) && states.contains(set - lesson) && fits(lesson, set - lesson)) {
                    all |= lesson;
                }
            }
            return all;
        }

        private int coreOf(int set) {
            int union = -1;
            for (int state : states) {
                if (within(state, set)) {
                    union = union == -1 ? state : union | state;
                }
            }
            return union;
        }

        private int nearestTo(int set) {
            int best = states.first();
            for (int state : states) {
                if (Integer.bitCount(state ^ set) < Integer.bitCount(best ^ set)) {
                    best = state;
                }
            }
            return best;
        }

        private List<Integer> base() {
            List<Integer> base = new ArrayList<>();
            for (int state : states) {
                int union = 0;
                for (int other : states) {
                    if (other != state && within(other, state)) {
                        union |= other;
                    }
                }
                if (state != bottom() && union != state) {
                    base.add(state);
                }
            }
            return base;
        }

        private List<Integer> atoms(int item) {
            List<Integer> atoms = new ArrayList<>();
            for (int state : states) {
                if ((state >> item & 1) == 1 && lastSet(state) == lessonWith(item)) {
                    atoms.add(state);
                }
            }
            return atoms;
        }

        private static int pick(List<Integer> list, int k) {
            return k >= 0 && k < list.size() ? list.get(k) : -1;
        }

        // ---- the test

        private void newTest(int newLuck, int newSlip) {
            luck = newLuck;
            slip = newSlip;
            unsure = 0;
            weights = new TreeMap<>();
            for (int state : states) {
                weights.put(state, 1L);
            }
        }

        private int sure(int item, boolean with) {
            TreeMap<Integer, Long> rest = new TreeMap<>(weights);
            rest.keySet().removeIf(state -> (state >> item & 1) == 1 != with);
            if (rest.isEmpty()) {
                return -4;
            }
            weights = rest;
            return rest.size();
        }

        private int notSure(int item, boolean right) {
            if (unsure == 6) {
                return -3;
            }
            TreeMap<Integer, Long> rest = new TreeMap<>();
            for (int state : weights.keySet()) {
                boolean with = (state >> item & 1) == 1;
                int times = with ? (right ? 100 - slip : slip) : (right ? luck : 100 - luck);
                if (times != 0) {
                    rest.put(state, weights.get(state) * times);
                }
            }
            if (rest.isEmpty()) {
                return -4;
            }
            unsure++;
            weights = rest;
            return rest.size();
        }

        private int bestItem() {
            int best = -1;
            int least = Integer.MAX_VALUE;
            for (int i = 0; i < size() && weights.size() > 1; i++) {
                int item = i;
                int with = (int) weights.keySet().stream().filter(state -> (state >> item & 1) == 1).count();
                int greater = Math.max(with, weights.size() - with);
                if (greater < least) {
                    least = greater;
                    best = i;
                }
            }
            return best;
        }

        private int likely() {
            int best = weights.firstKey();
            for (int state : weights.keySet()) {
                if (weights.get(state) > weights.get(best)) {
                    best = state;
                }
            }
            return best;
        }

        private int worst(List<Integer> family, Map<List<Integer>, Integer> before) {
            if (family.size() <= 1) {
                return 0;
            }
            if (before.containsKey(family)) {
                return before.get(family);
            }
            int fewest = 99;
            for (int i = 0; i < size(); i++) {
                List<Integer> with = new ArrayList<>();
                List<Integer> without = new ArrayList<>();
                for (int state : family) {
                    ((state >> i & 1) == 1 ? with : without).add(state);
                }
                if (!with.isEmpty() && !without.isEmpty()) {
                    fewest = Math.min(fewest, 1 + Math.max(worst(with, before), worst(without, before)));
                }
            }
            before.put(family, fewest);
            return fewest;
        }

        // ---- ways: of each state the best whole way to it from where they begin

        private record Way(int cost, List<Integer> lessons) { }

        private static boolean better(Way a, Way b) {
            if (b == null || a.cost() != b.cost()) {
                return b == null || a.cost() < b.cost();
            }
            for (int i = 0; i < a.lessons().size() && i < b.lessons().size(); i++) {
                if (!a.lessons().get(i).equals(b.lessons().get(i))) {
                    return a.lessons().get(i) < b.lessons().get(i);
                }
            }
            return a.lessons().size() < b.lessons().size();
        }

        private Way bestWay(int from, int goal) {
            TreeMap<Integer, Way> to = new TreeMap<>(Map.of(from, new Way(0, List.of())));
            Way best = null;
            for (int state : states) {
                Way here = to.get(state);
                if (here != null) {
                    for (int lesson : lessons()) {
                        if (fits(lesson, state)) {
                            Way on = longer(here, lesson);
                            to.put(state | lesson, better(on, to.get(state | lesson)) ? on : to.get(state | lesson));
                        }
                    }
                    best = within(goal, state) && better(here, best) ? here : best;
                }
            }
            return best;
        }

        private Way longer(Way way, int lesson) {
            int cost = way.cost();
            for (int i = 0; i < size(); i++) {
                cost += (lesson >> i & 1) * hours.get(i);
            }
            List<Integer> lessons = new ArrayList<>(way.lessons());
            lessons.add(Integer.numberOfTrailingZeros(lesson));
            return new Way(cost, lessons);
        }

        private int rowsTo(int set, Map<Integer, Integer> before) {
            if (set == bottom()) {
                return 1;
            }
            if (before.containsKey(set)) {
                return before.get(set);
            }
            int rows = 0;
            for (int lesson : lessons()) {
                if (within(lesson, set) && states.contains(set - lesson) && fits(lesson, set - lesson)) {
                    rows += rowsTo(set - lesson, before);
                }
            }
            before.put(set, rows);
            return rows;
        }

        // ---- the pupil

        private void newPupil(int set) {
            known = set;
            day = 0;
            lost = 0;
            used.clear();
            for (int i = 0; i < 12; i++) {
                used.put(i, 0);
            }
        }

        private void oneDay() {
            day++;
            boolean again = true;
            while (again) {
                int rest = known;
                for (int i = 0; i < size(); i++) {
                    boolean fades = things.get(i).kind() == 3 && (known >> i & 1) == 1;
                    if (fades && day - used.get(i) > things.get(i).extra()) {
                        rest -= 1 << i;
                    }
                }
                again = rest != known;
                int core = coreOf(rest);
                lost += Integer.bitCount(known) - Integer.bitCount(core);
                known = core;
            }
        }

        // ---- sheets

        private int find(int number) {
            finding = number;
            return -10 - number;
        }

        private static boolean noSheet(int s) {
            return s < 0 || s > 3;
        }

        int formOf(int s) {
            return rows[s] instanceof byte[] ? 0 : rows[s] instanceof short[] ? 1 : 2;
        }

        int lengthOf(int s) {
            return java.lang.reflect.Array.getLength(rows[s]);
        }

        private int valueOf(int s, int i) {
            return ((Number) java.lang.reflect.Array.get(rows[s], i)).intValue();
        }

        private List<Integer> answersOf(int s) {
            List<Integer> answers = new ArrayList<>();
            for (int i = 0; i < lengthOf(s); i++) {
                answers.add(valueOf(s, i) & 4095 & (1 << size()) - 1);
            }
            return answers;
        }

        private int markRefusal(int s, int form, int i) {
            if (noSheet(s) || form < 0 || form > 2) {
                return -2;
            }
            if (rows[s] == null) {
                return find(1);
            }
            if (formOf(s) != form) {
                return find(3);
            }
            return i < 0 || i >= lengthOf(s) ? find(2) : 0;
        }

        private int write(int s, int form, int i, int v) {
            int refusal = markRefusal(s, form, i);
            if (refusal != 0) {
                return refusal;
            }
            if (rows[s] instanceof byte[] bytes) {
                bytes[i] = (byte) v;
            } else if (rows[s] instanceof short[] shorts) {
                shorts[i] = (short) v;
            } else if (rows[s] instanceof int[] ints) {
                ints[i] = v;
            }
            return 1;
        }

        private int newSheet(int s, int form, int n) {
            if (noSheet(s) || form < 0 || form > 2 || n > 40) {
                return -2;
            }
            if (n < 0) {
                return find(5);
            }
            rows[s] = form == 0 ? new byte[n] : form == 1 ? new short[n] : new int[n];
            return n;
        }

        private int copyMarks(int s, int i, int t, int j, int n) {
            if (noSheet(s) || noSheet(t)) {
                return -2;
            }
            if (rows[s] == null || rows[t] == null) {
                return find(1);
            }
            if (formOf(s) != formOf(t)) {
                return find(4);
            }
            try {
                System.arraycopy(rows[s], i, rows[t], j, n);
            } catch (IndexOutOfBoundsException e) {
                return find(2);
            }
            return 1;
        }

        private int common(int s) {
            TreeMap<Integer, Integer> counts = new TreeMap<>();
            for (int answers : answersOf(s)) {
                counts.merge(nearestTo(answers), 1, Integer::sum);
            }
            int best = -4;
            for (int state : counts.keySet()) {
                best = best == -4 || counts.get(state) > counts.get(best) ? state : best;
            }
            return best;
        }

        private int seen(int s, int a, int e) {
            int set = 0;
            for (int i = 0; i < size(); i++) {
                int b = i;
                long against = answersOf(s).stream().filter(x -> (x >> a & 1) == 1 && (x >> b & 1) == 0).count();
                set |= b != a && against <= e ? 1 << b : 0;
            }
            return set;
        }

        private int odd(int s, int item, int lucky) {
            int odd = 0;
            for (int answers : answersOf(s)) {
                boolean has = (answers >> item & 1) == 1;
                boolean near = (nearestTo(answers) >> item & 1) == 1;
                odd += lucky == 1 && has && !near || lucky == 0 && !has && near ? 1 : 0;
            }
            return odd;
        }

        private int misfit(int s) {
            int sum = 0;
            for (int answers : answersOf(s)) {
                sum += Integer.bitCount(answers ^ nearestTo(answers));
            }
            return sum;
        }

        private int judge(int s, int i) {
            if (i < 0 || i >= lengthOf(s)) {
                return find(2);
            }
            newTest(luck, slip);
            int taken = 0;
            while (taken < size() && notSure(taken, (valueOf(s, i) >> taken & 1) == 1) > 0) {
                taken++;
            }
            return taken;
        }

        // ---- the face

        long ask(String name, int[] a) {
            switch (name) {
                case "item": return newItem(a[0], a[1], a[2]);
                case "other": return newOther(a[0], a[1]);
                case "hours": return noItem(a[0]) || a[1] < 1 || a[1] > 100 ? -2 : hours.set(a[0], a[1]);
                case "about": return about(a[0], a[1]);
                case "served": return noItem(a[0]) || noSet(a[1]) ? -2 : isServed(a[0], a[1]) ? 1 : 0;
                case "states": return states.size();
                case "state": return noSet(a[0]) ? -2 : states.contains(a[0]) ? 1 : 0;
                case "at": return a[0] < 0 || a[0] >= states.size() ? -2 : all().get(a[0]);
                case "top": return coreOf(4095);
                case "core": return noSet(a[0]) ? -2 : coreOf(a[0]);
                case "reason": return noItem(a[0]) || noSet(a[1]) ? -2 : reason(a[0], a[1]);
                case "test": return test(a[0], a[1]);
                case "left": return weights.size();
                case "ask": return bestItem();
                case "answer": return noItem(a[0]) ? -2 : sure(a[0], a[1] == 1);
                case "unsure": return noItem(a[0]) ? -2 : notSure(a[0], a[1] == 1);
                case "likely": return likely();
                case "weight": return noSet(a[0]) ? -2 : weights.getOrDefault(a[0], 0L);
                case "weights": return weights.values().stream().mapToLong(w -> w).sum();
                case "worst": return weights.size() > 10 ? -4 : worst(new ArrayList<>(weights.keySet()), new HashMap<>());
                case "next": case "last": case "ways": case "pupil": case "cost": case "way": return askOfState(name, a);
                case "learn": return noItem(a[0]) ? -2 : learn(a[0]);
                case "use": return noItem(a[0]) ? -2 : use(a[0]);
                case "pass": return pass(a[0]);
                default: return askOfSheets(name, a);
            }
        }

        private long askOfState(String name, int[] a) {
            boolean goal = name.equals("cost") || name.equals("way");
            if (noSet(a[0]) || goal && noSet(a[1])) {
                return -2;
            }
            if (!states.contains(a[0])) {
                return -4;
            }
            switch (name) {
                case "next": return nextSet(a[0]);
                case "last": return lastSet(a[0]);
                case "ways": return rowsTo(a[0], new HashMap<>());
                case "pupil": newPupil(a[0]); return 1;
                default:
                    Way way = bestWay(a[0], a[1]);
                    return way == null ? -1 : name.equals("cost") ? way.cost() : pick(way.lessons(), a[2]);
            }
        }

        private long askOfSheets(String name, int[] a) {
            switch (name) {
                case "sheet": return newSheet(a[0], a[1], a[2]);
                case "put": return write(a[0], a[1], a[2], a[3]);
                case "get": return markRefusal(a[0], a[1], a[2]) != 0 ? Integer.MIN_VALUE : valueOf(a[0], a[2]);
                case "copy": return copyMarks(a[0], a[1], a[2], a[3], a[4]);
                case "nearest": return noSet(a[0]) ? -2 : nearestTo(a[0]);
                case "far": return noSet(a[0]) || noSet(a[1]) ? -2 : Integer.bitCount(a[0] ^ a[1]);
                case "base": return pick(base(), a[0]);
                case "atom": return noItem(a[0]) ? -2 : pick(atoms(a[0]), a[1]);
                case "count": return a[0] < 0 || a[0] > 7 ? -2 : counts()[a[0]];
                case "digest": return digest();
                default: return askOfRow(name, a);
            }
        }

        private long askOfRow(String name, int[] a) {
            boolean bad = name.equals("odd") && (noItem(a[1]) || a[2] < 0 || a[2] > 1)
                || name.equals("seen") && (noItem(a[1]) || a[2] < 0 || a[2] > 40);
            if (noSheet(a[0]) || bad) {
                return -2;
            }
            if (rows[a[0]] == null) {
                return find(1);
            }
            switch (name) {
                case "lose":
                    int had = lengthOf(a[0]);
                    rows[a[0]] = null;
                    return had;
                case "misfit": return misfit(a[0]);
                case "odd": return odd(a[0], a[1], a[2]);
                case "seen": return seen(a[0], a[1], a[2]);
                case "common": return common(a[0]);
                case "judge": return judge(a[0], a[1]);
                default: throw new IllegalStateException(name);
            }
        }

        private int newItem(int kind, int needs, int extra) {
            boolean extraFits = kind == 2 ? extra >= 0 && extra <= 3 : kind == 3 ? extra >= 1 && extra <= 50 : extra == 0;
            if (kind < 0 || kind > 4 || needs >> 12 != 0 || !extraFits || kind == 4 && needs != 0) {
                return -2;
            }
            if (size() == 12) {
                return -3;
            }
            things.add(new Thing(kind, needs, extra, new ArrayList<>()));
            hours.add(1);
            change();
            return size() - 1;
        }

        private int newOther(int item, int set) {
            if (noItem(item) || things.get(item).kind() != 1 || set >> 12 != 0) {
                return -2;
            }
            List<Integer> others = things.get(item).others();
            if (others.size() == 4) {
                return -3;
            }
            others.add(set);
            change();
            return others.size();
        }

        private int about(int item, int what) {
            if (noItem(item) || what < 0 || what > 4) {
                return -2;
            }
            Thing it = things.get(item);
            return new int[] {it.kind(), it.needs(), it.extra(), it.others().size(), hours.get(item)}[what];
        }

        private int nextSet(int set) {
            int all = 0;
            for (int lesson : lessons()) {
                all |= fits(lesson, set) ? lesson : 0;
            }
            return all;
        }

        private int reason(int item, int set) {
            List<Integer> sets = new ArrayList<>(List.of(things.get(item).needs()));
            sets.addAll(things.get(item).others());
            for (int wanted : sets) {
                if (within(wanted, set)) {
                    return wanted == 0 ? 12 : Integer.numberOfTrailingZeros(wanted);
                }
            }
            return -1;
        }

        private int test(int newLuck, int newSlip) {
            if (newLuck < 0 || newLuck > 99 || newSlip < 0 || newSlip > 99) {
                return -2;
            }
            newTest(newLuck, newSlip);
            return weights.size();
        }

        private int learn(int item) {
            if (!fits(lessonWith(item), known)) {
                return -4;
            }
            known |= lessonWith(item);
            used.put(item, day);
            return known;
        }

        private int use(int item) {
            if (things.get(item).kind() != 3 || (known >> item & 1) == 0) {
                return -4;
            }
            used.put(item, day);
            return 1;
        }

        private int pass(int days) {
            if (days < 1 || days > 100) {
                return -2;
            }
            for (int d = 0; d < days; d++) {
                oneDay();
            }
            return known;
        }

        private int[] counts() {
            return new int[] {size(), known, day, lost, unsure, luck, slip, finding};
        }

        long digest() {
            List<Long> parts = new ArrayList<>();
            for (int what = 0; what <= 6; what++) {
                parts.add((long) counts()[what]);
            }
            parts.add((long) states.size());
            for (int i = 0; i < size(); i++) {
                for (int what = 0; what <= 4; what++) {
                    parts.add((long) about(i, what));
                }
            }
            for (int state : states) {
                parts.add((long) state);
                parts.add(weights.getOrDefault(state, 0L));
            }
            long h = 17;
            for (long part : parts) {
                h = 31 * h + part;
            }
            return h;
        }
    }
}
