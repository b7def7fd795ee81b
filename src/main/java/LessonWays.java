import java.util.Arrays;

/** A teacher's map of lessons: see the document's promises 1 to 46 for what each call answers. */
public final class LessonWays {
    public static final int NONE = -1, BAD = -2, FULL = -3, NOT = -4;

    private static final int FINDINGS = -10;
    private static final int NULL = 1, INDEX = 2, CAST = 3, STORE = 4, SIZE = 5;

    private static final int EITHER = 1, JOINT = 2, FADING = 3, CORE = 4;
    private static final int MOST_ITEMS = 12;
    private static final int ALL_SETS = 1 << MOST_ITEMS;
    private static final int SERVED_BY_NOTHING = 12;
    private static final int LEAST_INT = -2147483648;

    private final Items items = new Items();
    private final Space space = new Space(items);
    private final Routes routes = new Routes(items, space);
    private final Exam exam = new Exam(items, space);
    private final Learner learner = new Learner(items, space);
    private final Sheets sheets = new Sheets();
    private final Answers answers = new Answers(items, space, sheets);

    public LessonWays() {
        beginAnew();
    }

    // ---- items

    public int item(int kind, int needs, int extra) {
        if (!Items.canBe(kind, needs, extra)) {
            return BAD;
        }
        int added = items.add(kind, needs, extra);
        if (added != FULL) {
            beginAnew();
        }
        return added;
    }

    public int other(int item, int set) {
        if (!items.has(item) || items.kinds[item] != EITHER || !Items.canBeSet(set)) {
            return BAD;
        }
        int others = items.addOther(item, set);
        if (others != FULL) {
            beginAnew();
        }
        return others;
    }

    public int hours(int item, int h) {
        if (!items.has(item) || h < 1 || h > 100) {
            return BAD;
        }
        int before = items.hours[item];
        items.hours[item] = h;
        return before;
    }

    public int about(int item, int what) {
        if (!items.has(item)) {
            return BAD;
        }
        switch (what) {
            case 0: return items.kinds[item];
            case 1: return items.needs[item];
            case 2: return items.extras[item];
            case 3: return items.others[item];
            case 4: return items.hours[item];
            default: return BAD;
        }
    }

    public int served(int item, int set) {
        if (!items.has(item) || !items.hasAll(set)) {
            return BAD;
        }
        return items.isServed(item, set) ? 1 : 0;
    }

    // ---- states

    public int states() {
        return space.size;
    }

    public int state(int set) {
        if (!items.hasAll(set)) {
            return BAD;
        }
        return space.isState(set) ? 1 : 0;
    }

    public int at(int k) {
        if (k < 0 || k >= space.size) {
            return BAD;
        }
        return space.numbers[k];
    }

    public int top() {
        return space.top;
    }

    public int next(int set) {
        int refusal = refusalOfState(set);
        return refusal != 0 ? refusal : items.allOf(space.fitting[set]);
    }

    public int last(int set) {
        int refusal = refusalOfState(set);
        return refusal != 0 ? refusal : items.allOf(space.lastOf(set));
    }

    public int core(int set) {
        return items.hasAll(set) ? space.coreOf(set) : BAD;
    }

    public int reason(int item, int set) {
        if (!items.has(item) || !items.hasAll(set)) {
            return BAD;
        }
        int wanted = items.servingSet(item, set);
        if (wanted == NONE) {
            return NONE;
        }
        return wanted == 0 ? SERVED_BY_NOTHING : Integer.numberOfTrailingZeros(wanted);
    }

    // ---- tests

    public int test(int luck, int slip) {
        if (luck < 0 || luck > 99 || slip < 0 || slip > 99) {
            return BAD;
        }
        exam.begin(luck, slip);
        return exam.size;
    }

    public int left() {
        return exam.size;
    }

    public int ask() {
        return exam.bestItem();
    }

    public int answer(int item, boolean known) {
        return items.has(item) ? exam.takeSure(item, known) : BAD;
    }

    public int unsure(int item, boolean right) {
        return items.has(item) ? exam.takeUnsure(item, right) : BAD;
    }

    public int likely() {
        return exam.heaviest();
    }

    public long weight(int set) {
        return items.hasAll(set) ? exam.weightOf[set] : BAD;
    }

    public long weights() {
        return exam.sumOfWeights();
    }

    public int worst() {
        return exam.fewestQuestions();
    }

    // ---- ways

    public int cost(int from, int goal) {
        int refusal = refusalOfWay(from, goal);
        return refusal != 0 ? refusal : routes.leastCost(from, goal);
    }

    public int way(int from, int goal, int k) {
        int refusal = refusalOfWay(from, goal);
        return refusal != 0 ? refusal : routes.lessonOnWay(from, goal, k);
    }

    public int ways(int set) {
        int refusal = refusalOfState(set);
        return refusal != 0 ? refusal : routes.rowsTo(set);
    }

    // ---- the pupil

    public int learn(int item) {
        return items.has(item) ? learner.takeLesson(item) : BAD;
    }

    public int use(int item) {
        return items.has(item) ? learner.practise(item) : BAD;
    }

    public int pass(int days) {
        if (days < 1 || days > 100) {
            return BAD;
        }
        for (int d = 0; d < days; d++) {
            learner.liveOneDay();
        }
        return learner.known;
    }

    public int pupil(int set) {
        int refusal = refusalOfState(set);
        if (refusal != 0) {
            return refusal;
        }
        learner.begin(set);
        return 1;
    }

    // ---- sheets

    public int sheet(int s, int form, int n) {
        if (!Sheets.canBe(s) || !Sheets.canBeForm(form) || n > Sheets.MOST_MARKS) {
            return BAD;
        }
        if (n < 0) {
            return sheets.find(SIZE);
        }
        sheets.begin(s, form, n);
        return n;
    }

    public int lose(int s) {
        int refusal = refusalOfSheet(s);
        return refusal != 0 ? refusal : sheets.drop(s);
    }

    public int put(int s, int form, int i, int v) {
        int refusal = refusalOfMark(s, form, i);
        if (refusal != 0) {
            return refusal;
        }
        sheets.write(s, i, v);
        return 1;
    }

    public int get(int s, int form, int i) {
        return refusalOfMark(s, form, i) != 0 ? LEAST_INT : sheets.read(s, i);
    }

    public int copy(int s, int i, int t, int j, int n) {
        if (!Sheets.canBe(s) || !Sheets.canBe(t)) {
            return BAD;
        }
        if (sheets.isLost(s) || sheets.isLost(t)) {
            return sheets.find(NULL);
        }
        if (sheets.forms[s] != sheets.forms[t]) {
            return sheets.find(STORE);
        }
        if (!sheets.hasRange(s, i, n) || !sheets.hasRange(t, j, n)) {
            return sheets.find(INDEX);
        }
        sheets.move(s, i, t, j, n);
        return 1;
    }

    public int nearest(int set) {
        return items.hasAll(set) ? space.nearestTo(set) : BAD;
    }

    public int far(int a, int b) {
        return items.hasAll(a) && items.hasAll(b) ? Integer.bitCount(a ^ b) : BAD;
    }

    public int base(int k) {
        return space.baseState(items.all(), k);
    }

    public int atom(int item, int k) {
        return items.has(item) ? space.baseState(items.lessons[item], k) : BAD;
    }

    public int misfit(int s) {
        int refusal = refusalOfSheet(s);
        return refusal != 0 ? refusal : answers.sumOfMisfits(s);
    }

    public int odd(int s, int item, int lucky) {
        if (!items.has(item) || lucky < 0 || lucky > 1) {
            return BAD;
        }
        int refusal = refusalOfSheet(s);
        return refusal != 0 ? refusal : answers.oddAnswers(s, item, lucky);
    }

    public int seen(int s, int a, int e) {
        if (!items.has(a) || e < 0 || e > Sheets.MOST_MARKS) {
            return BAD;
        }
        int refusal = refusalOfSheet(s);
        return refusal != 0 ? refusal : answers.seenNeeds(s, a, e);
    }

    public int common(int s) {
        int refusal = refusalOfSheet(s);
        return refusal != 0 ? refusal : answers.commonState(s);
    }

    public int judge(int s, int i) {
        int refusal = refusalOfSheet(s);
        if (refusal != 0) {
            return refusal;
        }
        if (!sheets.hasMark(s, i)) {
            return sheets.find(INDEX);
        }
        return exam.takeAll(answers.rightIn(s, i));
    }

    public int count(int what) {
        switch (what) {
            case 0: return items.size;
            case 1: return learner.known;
            case 2: return learner.day;
            case 3: return learner.lost;
            case 4: return exam.unsureAnswers;
            case 5: return exam.luck;
            case 6: return exam.slip;
            case 7: return sheets.latestFinding;
            default: return BAD;
        }
    }

    public long digest() {
        long h = 17;
        for (int what = 0; what <= 6; what++) {
            h = 31 * h + count(what);
        }
        h = 31 * h + space.size;
        for (int i = 0; i < items.size; i++) {
            for (int what = 0; what <= 4; what++) {
                h = 31 * h + about(i, what);
            }
        }
        for (int k = 0; k < space.size; k++) {
            int set = space.numbers[k];
            h = 31 * h + set;
            h = 31 * h + exam.weightOf[set];
        }
        return h;
    }

    private void beginAnew() {
        space.chart();
        exam.begin(0, 0);
        learner.begin(space.bottom);
    }

    // Each refusalOf.. answers 0 where there is nothing to refuse.

    private int refusalOfState(int set) {
        if (!items.hasAll(set)) {
            return BAD;
        }
        return space.isState(set) ? 0 : NOT;
    }

    private int refusalOfWay(int from, int goal) {
        return items.hasAll(goal) ? refusalOfState(from) : BAD;
    }

    private int refusalOfSheet(int s) {
        if (!Sheets.canBe(s)) {
            return BAD;
        }
        return sheets.isLost(s) ? sheets.find(NULL) : 0;
    }

    private int refusalOfMark(int s, int form, int i) {
        if (!Sheets.canBeForm(form)) {
            return BAD;
        }
        int refusal = refusalOfSheet(s);
        if (refusal != 0) {
            return refusal;
        }
        if (sheets.forms[s] != form) {
            return sheets.find(CAST);
        }
        return sheets.hasMark(s, i) ? 0 : sheets.find(INDEX);
    }

    /** What is taught, what it wants, and the lessons that it comes in. */
    private static final class Items {
        static final int MOST_OTHERS = 4;

        final int[] kinds = new int[MOST_ITEMS];
        final int[] needs = new int[MOST_ITEMS];
        final int[] extras = new int[MOST_ITEMS];
        final int[] hours = new int[MOST_ITEMS];
        final int[] others = new int[MOST_ITEMS];
        final int[][] otherSets = new int[MOST_ITEMS][MOST_OTHERS];
        /** Of each item the lesson that it is learnt in, as a set. */
        final int[] lessons = new int[MOST_ITEMS];
        int size;

        static boolean canBeSet(int set) {
            return set >= 0 && set < ALL_SETS;
        }

        static boolean canBe(int kind, int needs, int extra) {
            if (kind < 0 || kind > CORE || !canBeSet(needs)) {
                return false;
            }
            switch (kind) {
                case JOINT: return extra >= 0 && extra <= 3;
                case FADING: return extra >= 1 && extra <= 50;
                case CORE: return needs == 0 && extra == 0;
                default: return extra == 0;
            }
        }

        boolean has(int item) {
            return item >= 0 && item < size;
        }

        boolean hasAll(int set) {
            return set >= 0 && set < 1 << size;
        }

        int all() {
            return (1 << size) - 1;
        }

        /** The new item's number, or FULL. */
        int add(int kind, int wanted, int extra) {
            int item = size;
            if (item >= MOST_ITEMS) {
                return FULL;
            }
            size++;
            kinds[item] = kind;
            needs[item] = wanted;
            extras[item] = extra;
            hours[item] = 1;
            lessons[item] = 1 << item;
            if (kind == JOINT) {
                gatherGroup(extra);
            }
            return item;
        }

        /** How many other sets the item has then, or FULL. */
        int addOther(int item, int set) {
            int before = others[item];
            if (before >= MOST_OTHERS) {
                return FULL;
            }
            otherSets[item][before] = set;
            others[item] = before + 1;
            return others[item];
        }

        private void gatherGroup(int group) {
            int whole = 0;
            for (int i = 0; i < size; i++) {
                if (isInGroup(i, group)) {
                    whole |= 1 << i;
                }
            }
            for (int i = 0; i < size; i++) {
                if (isInGroup(i, group)) {
                    lessons[i] = whole;
                }
            }
        }

        private boolean isInGroup(int item, int group) {
            return kinds[item] == JOINT && extras[item] == group;
        }

        /** Whether a lesson is numbered by this item. */
        boolean leads(int item) {
            return (lessons[item] & ((1 << item) - 1)) == 0;
        }

        /** All items of lessons, of which the leading items are told. */
        int allOf(int leaders) {
            int all = 0;
            for (int i = 0; i < size; i++) {
                if ((leaders & 1 << i) != 0) {
                    all |= lessons[i];
                }
            }
            return all;
        }

        int ofKind(int kind) {
            int set = 0;
            for (int i = 0; i < size; i++) {
                if (kinds[i] == kind) {
                    set |= 1 << i;
                }
            }
            return set;
        }

        /** The first set told for the item that lies within this one, or NONE. */
        int servingSet(int item, int set) {
            if ((needs[item] & ~set) == 0) {
                return needs[item];
            }
            for (int o = 0; o < others[item]; o++) {
                int wanted = otherSets[item][o];
                if ((wanted & ~set) == 0) {
                    return wanted;
                }
            }
            return NONE;
        }

        boolean isServed(int item, int set) {
            return servingSet(item, set) != NONE;
        }

        boolean fits(int lesson, int set) {
            if ((lesson & set) != 0) {
                return false;
            }
            for (int i = 0; i < size; i++) {
                if ((lesson & 1 << i) != 0 && !isServed(i, set | lesson)) {
                    return false;
                }
            }
            return true;
        }

        int hoursOf(int lesson) {
            int sum = 0;
            for (int i = 0; i < size; i++) {
                if ((lesson & 1 << i) != 0) {
                    sum += hours[i];
                }
            }
            return sum;
        }
    }

    /** All states of knowledge. Sets of lessons are told here by the bits of their leading items. */
    private static final class Space {
        private static final int NO_STATE = -1;
        private static final int NOWHERE = 1 << 20;

        private final Items items;
        /** The states by rising numbers. */
        final int[] numbers = new int[ALL_SETS];
        /** Of each set: the lessons that fit it, or NO_STATE. */
        final int[] fitting = new int[ALL_SETS];
        /** Of each set: how far its nearest state is, times ALL_SETS, and that state. */
        private final int[] nearby = new int[ALL_SETS];
        int size;
        int bottom;
        int top;

        Space(Items items) {
            this.items = items;
        }

        void chart() {
            Arrays.fill(fitting, NO_STATE);
            size = 0;
            bottom = items.ofKind(CORE);
            top = bottom;
            fitting[bottom] = 0;
            // a lesson makes a set's number greater: all ways to a set are gone before it is looked at
            for (int set = bottom; set <= items.all(); set++) {
                if (isState(set)) {
                    enter(set);
                }
            }
            measure();
        }

        private void enter(int set) {
            numbers[size] = set;
            size++;
            top |= set;
            int leaders = 0;
            for (int i = 0; i < items.size; i++) {
                int lesson = items.lessons[i];
                if (items.leads(i) && items.fits(lesson, set)) {
                    leaders |= 1 << i;
                    fitting[set | lesson] = 0;
                }
            }
            fitting[set] = leaders;
        }

        // One round for each item is enough: each way from a set to a state
        // changes every item at most once, and in any order.
        private void measure() {
            for (int set = 0; set <= items.all(); set++) {
                nearby[set] = isState(set) ? set : NOWHERE;
            }
            for (int i = 0; i < items.size; i++) {
                for (int set = 0; set <= items.all(); set++) {
                    if ((set & 1 << i) == 0) {
                        compare(set, set | 1 << i);
                    }
                }
            }
        }

        private void compare(int a, int b) {
            int throughB = nearby[b] + ALL_SETS;
            int throughA = nearby[a] + ALL_SETS;
            nearby[a] = Math.min(nearby[a], throughB);
            nearby[b] = Math.min(nearby[b], throughA);
        }

        boolean isState(int set) {
            return fitting[set] != NO_STATE;
        }

        boolean isNext(int leader, int set) {
            return isState(set) && (fitting[set] & 1 << leader) != 0;
        }

        int lastOf(int set) {
            int leaders = 0;
            for (int i = 0; i < items.size; i++) {
                int lesson = items.lessons[i];
                if (items.leads(i) && (lesson & ~set) == 0 && isNext(i, set & ~lesson)) {
                    leaders |= 1 << i;
                }
            }
            return leaders;
        }

        int coreOf(int set) {
            if ((bottom & ~set) != 0) {
                return NONE;
            }
            int union = bottom;
            for (int k = 0; k < size; k++) {
                if ((numbers[k] & ~set) == 0) {
                    union |= numbers[k];
                }
            }
            return union;
        }

        int nearestTo(int set) {
            return nearby[set] % ALL_SETS;
        }

        int farFromNearest(int set) {
            return nearby[set] / ALL_SETS;
        }

        // Every state within another one can be led on to it, and so lies within it
        // less one of its last lessons: with two of these it is their union, with one it is in the base.
        int baseState(int lessons, int k) {
            int found = 0;
            for (int i = 0; i < size; i++) {
                int last = lastOf(numbers[i]);
                if (Integer.bitCount(last) == 1 && (last & lessons) != 0) {
                    if (found == k) {
                        return numbers[i];
                    }
                    found++;
                }
            }
            return NONE;
        }
    }

    /** Ways through the states. */
    private static final class Routes {
        private final Items items;
        private final Space space;
        /** A number for each state, made anew by each call. */
        private final int[] sums = new int[ALL_SETS];
        private final int[] lessonHours = new int[MOST_ITEMS];

        Routes(Items items, Space space) {
            this.items = items;
            this.space = space;
        }

        int leastCost(int from, int goal) {
            sumCosts(goal);
            return sums[from];
        }

        int lessonOnWay(int from, int goal, int k) {
            sumCosts(goal);
            int set = from;
            for (int step = 0; step < MOST_ITEMS; step++) {
                int leader = firstStep(set);
                if (leader == NONE || step == k) {
                    return leader;
                }
                set |= items.lessons[leader];
            }
            return NONE;
        }

        int rowsTo(int set) {
            Arrays.fill(sums, 0);
            sums[space.bottom] = 1;
            for (int k = 0; k < space.size; k++) {
                int here = space.numbers[k];
                for (int i = 0; i < items.size; i++) {
                    if (space.isNext(i, here)) {
                        sums[here | items.lessons[i]] += sums[here];
                    }
                }
            }
            return sums[set];
        }

        // sums: of each state the least cost from it to the goal, or NONE
        private void sumCosts(int goal) {
            for (int i = 0; i < items.size; i++) {
                lessonHours[i] = items.hoursOf(items.lessons[i]);
            }
            for (int k = space.size - 1; k >= 0; k--) {
                int set = space.numbers[k];
                sums[set] = (goal & ~set) == 0 ? 0 : leastThroughNext(set);
            }
        }

        private int leastThroughNext(int set) {
            int least = NONE;
            for (int i = 0; i < items.size; i++) {
                int through = costThrough(set, i);
                if (through != NONE && (least == NONE || through < least)) {
                    least = through;
                }
            }
            return least;
        }

        private int costThrough(int set, int leader) {
            if (!space.isNext(leader, set)) {
                return NONE;
            }
            int rest = sums[set | items.lessons[leader]];
            return rest == NONE ? NONE : lessonHours[leader] + rest;
        }

        // The least leading item that stays on a cheapest way: taken at each step, it makes the first of these ways.
        private int firstStep(int set) {
            if (sums[set] == 0 || sums[set] == NONE) {
                return NONE;
            }
            for (int i = 0; i < items.size; i++) {
                if (costThrough(set, i) == sums[set]) {
                    return i;
                }
            }
            return NONE;
        }
    }

    /** The test: which states are left, and their weights. */
    private static final class Exam {
        private static final int MOST_UNSURE = 6;
        private static final int MOST_FAMILY = 10;

        private final Items items;
        private final Space space;
        /** Of each set: its weight, 0 where it is not left. */
        final long[] weightOf = new long[ALL_SETS];
        /** Of each item: those of the family that have it, as bits. */
        private final int[] having = new int[MOST_ITEMS];
        /** Of each part of the family: how many questions are enough. */
        private final int[] questions = new int[1 << MOST_FAMILY];
        int size;
        int luck;
        int slip;
        int unsureAnswers;

        Exam(Items items, Space space) {
            this.items = items;
            this.space = space;
        }

        void begin(int newLuck, int newSlip) {
            luck = newLuck;
            slip = newSlip;
            unsureAnswers = 0;
            size = space.size;
            Arrays.fill(weightOf, 0L);
            for (int k = 0; k < space.size; k++) {
                weightOf[space.numbers[k]] = 1;
            }
        }

        private int leftWith(int item) {
            int with = 0;
            for (int k = 0; k < space.size; k++) {
                int set = space.numbers[k];
                if (weightOf[set] != 0 && (set & 1 << item) != 0) {
                    with++;
                }
            }
            return with;
        }

        int bestItem() {
            if (size <= 1) {
                return NONE;
            }
            int best = NONE;
            int least = size + 1;
            for (int i = 0; i < items.size; i++) {
                int with = leftWith(i);
                int greater = Math.max(with, size - with);
                if (greater < least) {
                    least = greater;
                    best = i;
                }
            }
            return best;
        }

        int takeSure(int item, boolean known) {
            return weigh(item, known ? 1 : 0, known ? 0 : 1) ? size : NOT;
        }

        int takeUnsure(int item, boolean right) {
            if (unsureAnswers >= MOST_UNSURE) {
                return FULL;
            }
            int timesWith = right ? 100 - slip : slip;
            int timesWithout = right ? luck : 100 - luck;
            if (!weigh(item, timesWith, timesWithout)) {
                return NOT;
            }
            unsureAnswers++;
            return size;
        }

        /** Whether some state is left so; where none would be, nothing is changed. */
        private boolean weigh(int item, int timesWith, int timesWithout) {
            int with = leftWith(item);
            int stay = (timesWith == 0 ? 0 : with) + (timesWithout == 0 ? 0 : size - with);
            if (stay == 0) {
                return false;
            }
            for (int k = 0; k < space.size; k++) {
                int set = space.numbers[k];
                weightOf[set] *= (set & 1 << item) != 0 ? timesWith : timesWithout;
            }
            size = stay;
            return true;
        }

        /** The test begins anew and is answered item by item: how many answers it took. */
        int takeAll(int rightItems) {
            begin(luck, slip);
            for (int i = 0; i < items.size; i++) {
                if (takeUnsure(i, (rightItems & 1 << i) != 0) < 0) {
                    return i;
                }
            }
            return items.size;
        }

        int heaviest() {
            int heaviest = space.bottom;
            for (int k = 0; k < space.size; k++) {
                if (weightOf[space.numbers[k]] > weightOf[heaviest]) {
                    heaviest = space.numbers[k];
                }
            }
            return heaviest;
        }

        long sumOfWeights() {
            long sum = 0;
            for (int k = 0; k < space.size; k++) {
                sum += weightOf[space.numbers[k]];
            }
            return sum;
        }

        int fewestQuestions() {
            if (size > MOST_FAMILY) {
                return NOT;
            }
            gatherFamily();
            int whole = (1 << size) - 1;
            // a part's halves have lesser numbers than it has
            for (int part = 0; part <= whole; part++) {
                questions[part] = fewestFor(part);
            }
            return questions[whole];
        }

        private void gatherFamily() {
            Arrays.fill(having, 0);
            int member = 0;
            for (int k = 0; k < space.size; k++) {
                int set = space.numbers[k];
                if (weightOf[set] != 0) {
                    markHaving(set, 1 << member);
                    member++;
                }
            }
        }

        private void markHaving(int set, int memberBit) {
            for (int i = 0; i < items.size; i++) {
                if ((set & 1 << i) != 0) {
                    having[i] |= memberBit;
                }
            }
        }

        private int fewestFor(int part) {
            if (Integer.bitCount(part) <= 1) {
                return 0;
            }
            int fewest = MOST_ITEMS;
            for (int i = 0; i < items.size; i++) {
                int with = part & having[i];
                int without = part & ~having[i];
                if (with != 0 && without != 0) {
                    fewest = Math.min(fewest, 1 + Math.max(questions[with], questions[without]));
                }
            }
            return fewest;
        }
    }

    /** The pupil, who learns and forgets. */
    private static final class Learner {
        private final Items items;
        private final Space space;
        private final int[] usedOn = new int[MOST_ITEMS];
        int known;
        int day;
        int lost;

        Learner(Items items, Space space) {
            this.items = items;
            this.space = space;
        }

        void begin(int set) {
            known = set;
            day = 0;
            lost = 0;
            Arrays.fill(usedOn, 0);
        }

        int takeLesson(int item) {
            int lesson = items.lessons[item];
            if (!items.fits(lesson, known)) {
                return NOT;
            }
            known |= lesson;
            usedOn[item] = day;
            return known;
        }

        int practise(int item) {
            if (items.kinds[item] != FADING || (known & 1 << item) == 0) {
                return NOT;
            }
            usedOn[item] = day;
            return 1;
        }

        // One round is enough: what is left after it was all used lately enough.
        void liveOneDay() {
            day++;
            int forgotten = forgottenNow();
            if (forgotten != 0) {
                int before = known;
                known = space.coreOf(before & ~forgotten);
                lost += Integer.bitCount(before & ~known);
            }
        }

        private int forgottenNow() {
            int forgotten = 0;
            for (int i = 0; i < items.size; i++) {
                boolean fades = items.kinds[i] == FADING && (known & 1 << i) != 0;
                if (fades && day - usedOn[i] > items.extras[i]) {
                    forgotten |= 1 << i;
                }
            }
            return forgotten;
        }
    }

    /** The rows of answers, as ints that never leave their form, and the latest finding. */
    private static final class Sheets {
        static final int MOST_SHEETS = 4;
        static final int MOST_MARKS = 40;
        private static final int LOST = -1;
        private static final int BYTES = 0, SHORTS = 1, INTS = 2;

        final int[] forms = new int[MOST_SHEETS];
        final int[] sizes = new int[MOST_SHEETS];
        private final int[][] marks = new int[MOST_SHEETS][MOST_MARKS];
        int latestFinding;

        Sheets() {
            Arrays.fill(forms, LOST);
        }

        static boolean canBe(int s) {
            return s >= 0 && s < MOST_SHEETS;
        }

        static boolean canBeForm(int form) {
            return form >= BYTES && form <= INTS;
        }

        int find(int finding) {
            latestFinding = finding;
            return FINDINGS - finding;
        }

        boolean isLost(int s) {
            return forms[s] == LOST;
        }

        boolean hasMark(int s, int i) {
            return i >= 0 && i < sizes[s];
        }

        // By subtraction, since i + n may wrap.
        boolean hasRange(int s, int i, int n) {
            return i >= 0 && n >= 0 && n <= sizes[s] - i;
        }

        void begin(int s, int form, int n) {
            forms[s] = form;
            sizes[s] = n;
            Arrays.fill(marks[s], 0);
        }

        int drop(int s) {
            int had = sizes[s];
            forms[s] = LOST;
            sizes[s] = 0;
            return had;
        }

        int read(int s, int i) {
            return marks[s][i];
        }

        void write(int s, int i, int v) {
            switch (forms[s]) {
                case BYTES:
                    marks[s][i] = (byte) v;
                    break;
                case SHORTS:
                    marks[s][i] = (short) v;
                    break;
                default:
                    marks[s][i] = v;
                    break;
            }
        }

        void move(int s, int i, int t, int j, int n) {
            System.arraycopy(marks[s], i, marks[t], j, n);
        }
    }

    /** A sheet's marks read as the pupils' answers. */
    private static final class Answers {
        private final Items items;
        private final Space space;
        private final Sheets sheets;

        Answers(Items items, Space space, Sheets sheets) {
            this.items = items;
            this.space = space;
            this.sheets = sheets;
        }

        /** The set of items that a mark tells as right. */
        int rightIn(int s, int i) {
            return sheets.read(s, i) & items.all();
        }

        int sumOfMisfits(int s) {
            int sum = 0;
            for (int i = 0; i < sheets.sizes[s]; i++) {
                sum += space.farFromNearest(rightIn(s, i));
            }
            return sum;
        }

        int oddAnswers(int s, int item, int lucky) {
            int odd = 0;
            for (int i = 0; i < sheets.sizes[s]; i++) {
                int right = rightIn(s, i);
                int nearest = space.nearestTo(right);
                int parted = lucky == 1 ? right & ~nearest : nearest & ~right;
                if ((parted & 1 << item) != 0) {
                    odd++;
                }
            }
            return odd;
        }

        int seenNeeds(int s, int a, int e) {
            int set = 0;
            for (int b = 0; b < items.size; b++) {
                if (b != a && countAgainst(s, a, b) <= e) {
                    set |= 1 << b;
                }
            }
            return set;
        }

        private int countAgainst(int s, int a, int b) {
            int against = 0;
            for (int i = 0; i < sheets.sizes[s]; i++) {
                int right = rightIn(s, i);
                if ((right & 1 << a) != 0 && (right & 1 << b) == 0) {
                    against++;
                }
            }
            return against;
        }

        int commonState(int s) {
            int common = NOT;
            int most = 0;
            for (int i = 0; i < sheets.sizes[s]; i++) {
                int state = space.nearestTo(rightIn(s, i));
                int here = countNearest(s, state);
                if (here > most || (here == most && state < common)) {
                    most = here;
                    common = state;
                }
            }
            return common;
        }

        private int countNearest(int s, int state) {
            int here = 0;
            for (int i = 0; i < sheets.sizes[s]; i++) {
                if (space.nearestTo(rightIn(s, i)) == state) {
                    here++;
                }
            }
            return here;
        }
    }
}
