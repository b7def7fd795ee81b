// Each promise of the document by itself: ordinary inputs, the edges that it names, and wrong inputs.
public final class PromiseTest {
    private static final int NONE = -1, BAD = -2, FULL = -3, NOT = -4;
    private static final int NULL = -11, INDEX = -12, CAST = -13, STORE = -14, SIZE = -15;
    private static final int LEAST = Integer.MIN_VALUE, MOST = Integer.MAX_VALUE;
    private static final int PLAIN = 0, EITHER = 1, JOINT = 2, FADING = 3, CORE = 4;

    private static int wrong = 0;
    private static int promise = 0;

    private static void due(String call, long got, long want) {
        if (got != want) {
            wrong++;
            System.out.println("promise " + promise + ": " + call + " answered " + got + ", due is " + want);
        }
    }

    /** 0, 1 by 0, 2 by 1 or by 3, 3, the group of 4 and 5 by 0 and 3: fourteen states. */
    private static LessonWays school() {
        LessonWays x = new LessonWays();
        x.item(PLAIN, 0, 0);
        x.item(PLAIN, 1, 0);
        x.item(EITHER, 2, 0);
        x.other(2, 8);
        x.item(PLAIN, 0, 0);
        x.item(JOINT, 1, 0);
        x.item(JOINT, 8, 0);
        return x;
    }

    /** So many plain items that need nothing: all sets are states. */
    private static LessonWays free(int n) {
        LessonWays x = new LessonWays();
        for (int i = 0; i < n; i++) {
            x.item(PLAIN, 0, 0);
        }
        return x;
    }

    /** Item 0 is core, each further one is plain and needs the one ahead of it: states 1, 3, 7, .. */
    private static LessonWays chain(int n) {
        LessonWays x = new LessonWays();
        x.item(CORE, 0, 0);
        for (int i = 1; i < n; i++) {
            x.item(PLAIN, 1 << i - 1, 0);
        }
        return x;
    }

    /** Core 0; 1 fades in 2 days; 2 fades in 5 days and needs 1; 3 is plain and needs 2. */
    private static LessonWays fading() {
        LessonWays x = new LessonWays();
        x.item(CORE, 0, 0);
        x.item(FADING, 1, 2);
        x.item(FADING, 2, 5);
        x.item(PLAIN, 4, 0);
        return x;
    }

    /** 0 is free; the group of 1 and 2 was so too until 2 came, which waits for 11. */
    private static LessonWays shrunk() {
        LessonWays x = new LessonWays();
        x.item(PLAIN, 0, 0);
        x.item(JOINT, 0, 0);
        x.item(JOINT, 2048, 0);
        return x;
    }

    private static void promise1() {
        LessonWays x = new LessonWays();
        due("count(0)", x.count(0), 0);
        due("states()", x.states(), 1);
        due("at(0)", x.at(0), 0);
        due("top()", x.top(), 0);
        due("left()", x.left(), 1);
        due("weight(0)", x.weight(0), 1);
        due("count(1)", x.count(1), 0);
        due("count(2)", x.count(2), 0);
        due("count(3)", x.count(3), 0);
        due("count(4)", x.count(4), 0);
        due("count(5)", x.count(5), 0);
        due("count(6)", x.count(6), 0);
        due("count(7)", x.count(7), 0);
        for (int s = 0; s < 4; s++) {
            due("lose of a new object", x.lose(s), NULL);
        }
    }

    private static void promise2() {
        LessonWays x = new LessonWays();
        due("item(5, 0, 0)", x.item(5, 0, 0), BAD);
        due("item(-1, 0, 0)", x.item(-1, 0, 0), BAD);
        due("item(0, -1, 0)", x.item(0, -1, 0), BAD);
        due("item(0, 4096, 0)", x.item(0, 4096, 0), BAD);
        due("item(0, 0, 1)", x.item(0, 0, 1), BAD);
        due("item(1, 0, 1)", x.item(1, 0, 1), BAD);
        due("item(2, 0, -1)", x.item(2, 0, -1), BAD);
        due("item(2, 0, 4)", x.item(2, 0, 4), BAD);
        due("item(3, 0, 0)", x.item(3, 0, 0), BAD);
        due("item(3, 0, 51)", x.item(3, 0, 51), BAD);
        due("item(4, 1, 0)", x.item(4, 1, 0), BAD);
        due("item(4, 0, 1)", x.item(4, 0, 1), BAD);
        due("count(0) after the bad ones", x.count(0), 0);
        due("item(0, 4095, 0)", x.item(0, 4095, 0), 0);
        due("item(1, 2, 0)", x.item(1, 2, 0), 1);
        due("item(2, 0, 0)", x.item(2, 0, 0), 2);
        due("item(2, 0, 3)", x.item(2, 0, 3), 3);
        due("item(3, 0, 1)", x.item(3, 0, 1), 4);
        due("item(3, 0, 50)", x.item(3, 0, 50), 5);
        due("item(4, 0, 0)", x.item(4, 0, 0), 6);
        for (int i = 7; i < 12; i++) {
            due("item(0, 0, 0)", x.item(0, 0, 0), i);
        }
        due("item(0, 0, 0), the 13th", x.item(0, 0, 0), FULL);
        due("item(9, 0, 0), the 13th", x.item(9, 0, 0), BAD);
        due("count(0)", x.count(0), 12);
        promise2Anew();
    }

    private static void promise2Anew() {
        LessonWays x = fading();
        x.test(20, 10);
        x.unsure(1, true);
        x.learn(1);
        x.pass(1);
        x.pass(5);
        due("item(9, 0, 0)", x.item(9, 0, 0), BAD);
        due("count(5): a refusal changes nothing", x.count(5), 20);
        due("count(4): a refusal changes nothing", x.count(4), 1);
        due("count(3): a refusal changes nothing", x.count(3), 1);
        due("count(2): a refusal changes nothing", x.count(2), 6);
        due("item(4, 0, 0)", x.item(4, 0, 0), 4);
        due("count(1): a new pupil", x.count(1), 17);
        due("count(2): a new pupil", x.count(2), 0);
        due("count(3): a new pupil", x.count(3), 0);
        due("count(4): a new test", x.count(4), 0);
        due("count(5): a new test", x.count(5), 0);
        due("count(6): a new test", x.count(6), 0);
        due("weights(): a new test", x.weights(), x.states());
        LessonWays y = free(12);
        y.test(3, 4);
        due("item(0, 0, 0)", y.item(0, 0, 0), FULL);
        due("count(5): FULL changes nothing", y.count(5), 3);
    }

    private static void promise3() {
        LessonWays x = new LessonWays();
        x.item(PLAIN, 0, 0);
        x.item(EITHER, 4, 0);
        due("other(0, 1)", x.other(0, 1), BAD);
        due("other(2, 1)", x.other(2, 1), BAD);
        due("other(-1, 1)", x.other(-1, 1), BAD);
        due("other(1, -1)", x.other(1, -1), BAD);
        due("other(1, 4096)", x.other(1, 4096), BAD);
        due("states()", x.states(), 2);
        x.test(20, 10);
        due("other(1, 1)", x.other(1, 1), 1);
        due("states()", x.states(), 3);
        due("count(5): a new test", x.count(5), 0);
        due("left()", x.left(), 3);
        x.learn(0);
        due("other(1, 4095)", x.other(1, 4095), 2);
        due("count(1): a new pupil", x.count(1), 0);
        due("other(1, 0)", x.other(1, 0), 3);
        due("states()", x.states(), 4);
        due("other(1, 0)", x.other(1, 0), 4);
        x.test(20, 10);
        due("other(1, 0), the fifth", x.other(1, 0), FULL);
        due("other(1, 4096), the fifth", x.other(1, 4096), BAD);
        due("count(5): FULL changes nothing", x.count(5), 20);
        due("about(1, 3)", x.about(1, 3), 4);
    }

    private static void promise4() {
        LessonWays x = free(2);
        x.test(20, 10);
        due("hours(1, 100)", x.hours(1, 100), 1);
        due("hours(1, 7)", x.hours(1, 7), 100);
        due("hours(1, 0)", x.hours(1, 0), BAD);
        due("hours(1, 101)", x.hours(1, 101), BAD);
        due("hours(2, 1)", x.hours(2, 1), BAD);
        due("hours(-1, 1)", x.hours(-1, 1), BAD);
        due("hours(1, 1)", x.hours(1, 1), 7);
        due("hours(0, 1)", x.hours(0, 1), 1);
        due("count(5): hours make no new test", x.count(5), 20);
    }

    private static void promise5() {
        LessonWays x = new LessonWays();
        x.item(JOINT, 4095, 3);
        x.item(FADING, 8, 50);
        x.item(EITHER, 1, 0);
        x.other(2, 2);
        x.hours(2, 9);
        due("about(0, 0)", x.about(0, 0), JOINT);
        due("about(0, 1)", x.about(0, 1), 4095);
        due("about(0, 2)", x.about(0, 2), 3);
        due("about(0, 3)", x.about(0, 3), 0);
        due("about(0, 4)", x.about(0, 4), 1);
        due("about(1, 2)", x.about(1, 2), 50);
        due("about(2, 2)", x.about(2, 2), 0);
        due("about(2, 3)", x.about(2, 3), 1);
        due("about(2, 4)", x.about(2, 4), 9);
        due("about(2, 5)", x.about(2, 5), BAD);
        due("about(2, -1)", x.about(2, -1), BAD);
        due("about(3, 0)", x.about(3, 0), BAD);
        due("about(-1, 0)", x.about(-1, 0), BAD);
    }

    private static void promise6() {
        LessonWays x = school();
        due("served(0, 0)", x.served(0, 0), 1);
        due("served(1, 0)", x.served(1, 0), 0);
        due("served(1, 33)", x.served(1, 33), 1);
        due("served(2, 2)", x.served(2, 2), 1);
        due("served(2, 8)", x.served(2, 8), 1);
        due("served(2, 53)", x.served(2, 53), 0);
        due("served(4, 1)", x.served(4, 1), 1);
        due("served(4, 8)", x.served(4, 8), 0);
        due("served(6, 0)", x.served(6, 0), BAD);
        due("served(-1, 0)", x.served(-1, 0), BAD);
        due("served(0, 64)", x.served(0, 64), BAD);
        due("served(0, -1)", x.served(0, -1), BAD);
        LessonWays y = new LessonWays();
        y.item(PLAIN, 1, 0);
        y.item(CORE, 0, 0);
        y.item(PLAIN, 3, 0);
        due("served(0, 0) of one that needs itself", y.served(0, 0), 0);
        due("served(0, 1) of one that needs itself", y.served(0, 1), 1);
        due("served(1, 0) of a core one", y.served(1, 0), 1);
        due("served(2, 1): a part of the needs", y.served(2, 1), 0);
    }

    private static void promise7() {
        due("states() of the school", school().states(), 14);
        due("states() of free ones", free(12).states(), 4096);
        due("states() of a chain", chain(5).states(), 5);
        LessonWays x = new LessonWays();
        x.item(PLAIN, 2, 0);
        x.item(PLAIN, 1, 0);
        due("states(): two that wait for each other", x.states(), 1);
        LessonWays y = new LessonWays();
        y.item(JOINT, 2, 1);
        y.item(JOINT, 1, 1);
        due("states(): a group that needs itself", y.states(), 2);
        y.item(JOINT, 1, 2);
        due("states(): another group", y.states(), 3);
        y.item(JOINT, 128, 1);
        due("states(): a group with one that is not served", y.states(), 1);
        LessonWays z = new LessonWays();
        z.item(PLAIN, 1, 0);
        due("states(): a lesson of one item that needs itself", z.states(), 2);
    }

    private static void promise8() {
        LessonWays x = school();
        due("state(0)", x.state(0), 1);
        due("state(2)", x.state(2), 0);
        due("state(12)", x.state(12), 1);
        due("state(16)", x.state(16), 0);
        due("state(25): a part of a group", x.state(25), 0);
        due("state(57)", x.state(57), 1);
        due("state(63)", x.state(63), 1);
        due("state(64)", x.state(64), BAD);
        due("state(-1)", x.state(-1), BAD);
        due("state(LEAST)", x.state(LEAST), BAD);
        due("state(0) without the core", chain(3).state(0), 0);
    }

    private static void promise9() {
        LessonWays x = school();
        int[] all = {0, 1, 3, 7, 8, 9, 11, 12, 13, 15, 57, 59, 61, 63};
        for (int k = 0; k < all.length; k++) {
            due("at(" + k + ")", x.at(k), all[k]);
        }
        due("at(14)", x.at(14), BAD);
        due("at(-1)", x.at(-1), BAD);
        due("at(MOST)", x.at(MOST), BAD);
        due("at(4095) of free ones", free(12).at(4095), 4095);
        due("at(4096) of free ones", free(12).at(4096), BAD);
    }

    private static void promise10() {
        due("top() of the school", school().top(), 63);
        LessonWays x = chain(3);
        x.item(PLAIN, 2048, 0);
        due("top() without what nobody comes to", x.top(), 7);
        due("top() when a group is come to no more", shrunk().top(), 1);
    }

    private static void promise11() {
        LessonWays x = school();
        due("next(0)", x.next(0), 9);
        due("next(9): with all of a group", x.next(9), 54);
        due("next(63)", x.next(63), 0);
        due("next(2)", x.next(2), NOT);
        due("next(64)", x.next(64), BAD);
        due("next(-1)", x.next(-1), BAD);
    }

    private static void promise12() {
        LessonWays x = school();
        due("last(63): with all of a group", x.last(63), 54);
        due("last(15)", x.last(15), 14);
        due("last(7)", x.last(7), 4);
        due("last(0)", x.last(0), 0);
        due("last(2)", x.last(2), NOT);
        due("last(64)", x.last(64), BAD);
        due("last(-1)", x.last(-1), BAD);
        due("last(1) of the core", chain(3).last(1), 0);
        due("last(3)", chain(3).last(3), 2);
    }

    private static void promise13() {
        LessonWays x = school();
        due("core(62)", x.core(62), 12);
        due("core(4)", x.core(4), 0);
        due("core(47): a part of a group", x.core(47), 15);
        due("core(57)", x.core(57), 57);
        due("core(64)", x.core(64), BAD);
        due("core(-1)", x.core(-1), BAD);
        due("core(6) without the core", chain(3).core(6), NONE);
        due("core(5)", chain(3).core(5), 1);
    }

    private static void promise14() {
        LessonWays x = school();
        due("reason(0, 0)", x.reason(0, 0), 12);
        due("reason(1, 0)", x.reason(1, 0), NONE);
        due("reason(2, 2)", x.reason(2, 2), 1);
        due("reason(2, 8)", x.reason(2, 8), 3);
        due("reason(2, 10): the first", x.reason(2, 10), 1);
        due("reason(6, 0)", x.reason(6, 0), BAD);
        due("reason(-1, 0)", x.reason(-1, 0), BAD);
        due("reason(2, 64)", x.reason(2, 64), BAD);
        due("reason(2, -1)", x.reason(2, -1), BAD);
        LessonWays y = free(3);
        y.item(EITHER, 7, 0);
        y.other(3, 6);
        y.other(3, 0);
        y.other(3, 1);
        due("reason(3, 7)", y.reason(3, 7), 0);
        due("reason(3, 6)", y.reason(3, 6), 1);
        due("reason(3, 1): an empty one goes ahead", y.reason(3, 1), 12);
        due("reason of a core one", chain(1).reason(0, 0), 12);
    }

    private static void promise15() {
        LessonWays x = chain(4);
        x.answer(1, true);
        x.unsure(2, true);
        due("test(99, 99)", x.test(99, 99), 4);
        due("left()", x.left(), 4);
        due("weights()", x.weights(), 4);
        due("count(4)", x.count(4), 0);
        due("count(5)", x.count(5), 99);
        due("test(20, 10)", x.test(20, 10), 4);
        x.unsure(2, true);
        due("test(100, 0)", x.test(100, 0), BAD);
        due("test(0, 100)", x.test(0, 100), BAD);
        due("test(-1, 0)", x.test(-1, 0), BAD);
        due("test(0, -1)", x.test(0, -1), BAD);
        due("count(4): BAD changes nothing", x.count(4), 1);
        due("count(5): BAD changes nothing", x.count(5), 20);
        due("count(6): BAD changes nothing", x.count(6), 10);
        due("weights(): BAD changes nothing", x.weights(), 220);
    }

    private static void promise16() {
        LessonWays x = school();
        due("left()", x.left(), 14);
        x.answer(4, true);
        due("left()", x.left(), 4);
        x.test(0, 50);
        x.unsure(0, true);
        due("left() after luck 0", x.left(), 11);
    }

    private static void promise17() {
        due("ask() of the school", school().ask(), 1);
        due("ask() of one state", new LessonWays().ask(), NONE);
        due("ask() of free ones: the least of like ones", free(3).ask(), 0);
        LessonWays x = chain(8);
        due("ask() of a chain", x.ask(), 4);
        x.answer(4, false);
        due("ask() of its lower half", x.ask(), 2);
        x.answer(2, true);
        due("ask() of two", x.ask(), 3);
        x.answer(3, true);
        due("ask() of one left", x.ask(), NONE);
        LessonWays y = chain(3);
        y.test(50, 0);
        due("ask() of three: the greater halves are like", y.ask(), 1);
        y.unsure(1, true);
        due("ask() counts states, not weights", y.ask(), 1);
    }

    private static void promise18() {
        LessonWays x = chain(6);
        x.test(20, 10);
        x.unsure(3, true);
        due("answer(2, true)", x.answer(2, true), 4);
        due("weight(7): the weight stays", x.weight(7), 20);
        due("weight(15)", x.weight(15), 90);
        due("weight(3)", x.weight(3), 0);
        due("answer(4, false)", x.answer(4, false), 2);
        due("answer(2, false)", x.answer(2, false), NOT);
        due("answer(4, true)", x.answer(4, true), NOT);
        due("left(): NOT changes nothing", x.left(), 2);
        due("weights(): NOT changes nothing", x.weights(), 110);
        due("answer(0, true)", x.answer(0, true), 2);
        due("answer(6, true)", x.answer(6, true), BAD);
        due("answer(-1, true)", x.answer(-1, true), BAD);
        due("count(4): sure ones do not count", x.count(4), 1);
    }

    private static void promise19() {
        LessonWays x = chain(3);
        x.test(20, 10);
        due("unsure(1, true)", x.unsure(1, true), 3);
        due("weight(1)", x.weight(1), 20);
        due("weight(3)", x.weight(3), 90);
        due("unsure(2, false)", x.unsure(2, false), 3);
        due("weight(1)", x.weight(1), 1600);
        due("weight(3)", x.weight(3), 7200);
        due("weight(7)", x.weight(7), 900);
        due("unsure(3, true)", x.unsure(3, true), BAD);
        due("unsure(-1, true)", x.unsure(-1, true), BAD);
        for (int i = 2; i < 6; i++) {
            due("unsure(0, true)", x.unsure(0, true), 3);
        }
        due("unsure(0, true), the seventh", x.unsure(0, true), FULL);
        due("unsure(3, true), the seventh", x.unsure(3, true), BAD);
        due("count(4)", x.count(4), 6);
        due("weight(7): FULL changes nothing", x.weight(7), 59049000000L);
        LessonWays y = chain(3);
        due("unsure(1, true) without luck", y.unsure(1, true), 2);
        due("unsure(0, false): none would be left", y.unsure(0, false), NOT);
        due("count(4): NOT changes nothing", y.count(4), 1);
        due("weights(): NOT changes nothing", y.weights(), 200);
        due("unsure(2, false) without slip", y.unsure(2, false), 1);
        due("likely()", y.likely(), 3);
        y.test(50, 0);
        due("unsure(1, false) without slip", y.unsure(1, false), 1);
        due("weight(1)", y.weight(1), 50);
        due("unsure(2, true): luck alone", y.unsure(2, true), 1);
        due("weight(1)", y.weight(1), 2500);
        y.test(0, 50);
        y.answer(1, false);
        due("unsure(1, true): luck 0 leaves none", y.unsure(1, true), NOT);
        y.unsure(1, false);
        y.unsure(1, false);
        y.unsure(1, false);
        y.unsure(1, false);
        y.unsure(1, false);
        due("unsure(1, false), the sixth", y.unsure(1, false), 1);
        due("weights() of the greatest", y.weights(), 1000000000000L);
        due("unsure(1, true): FULL goes ahead of NOT", y.unsure(1, true), FULL);
    }

    private static void promise20() {
        LessonWays x = chain(4);
        due("likely(): the least of like ones", x.likely(), 1);
        x.test(20, 10);
        x.unsure(2, true);
        due("likely()", x.likely(), 7);
        x.unsure(3, true);
        due("likely()", x.likely(), 15);
        x.answer(3, false);
        due("likely() of those left", x.likely(), 7);
        due("likely() of a new object", new LessonWays().likely(), 0);
    }

    private static void promise21() {
        LessonWays x = chain(3);
        due("weight(1)", x.weight(1), 1);
        due("weight(2): no state", x.weight(2), 0);
        x.answer(1, true);
        due("weight(1): not left", x.weight(1), 0);
        due("weight(2): a state no more", shrunk().weight(2), 0);
        due("weight(8)", x.weight(8), BAD);
        due("weight(-1)", x.weight(-1), BAD);
        x.test(99, 99);
        for (int i = 0; i < 6; i++) {
            x.unsure(1, true);
        }
        due("weight(1) beyond an int", x.weight(1), 941480149401L);
        due("weight(3)", x.weight(3), 1);
    }

    private static void promise22() {
        LessonWays x = free(12);
        due("weights()", x.weights(), 4096);
        x.test(0, 0);
        for (int i = 0; i < 6; i++) {
            x.unsure(0, true);
        }
        due("weights() beyond an int", x.weights(), 2048L * 1000000000000L);
        x.answer(1, true);
        due("weights() of those left", x.weights(), 1024L * 1000000000000L);
    }

    private static void promise23() {
        due("worst() of one", new LessonWays().worst(), 0);
        due("worst() of two", chain(2).worst(), 1);
        due("worst() of three in a chain", chain(3).worst(), 2);
        due("worst() of four", free(2).worst(), 2);
        due("worst() of eight in a chain", chain(8).worst(), 3);
        due("worst() of nine in a chain", chain(9).worst(), 4);
        due("worst() of ten in a chain", chain(10).worst(), 4);
        due("worst() of eleven", chain(11).worst(), NOT);
        LessonWays x = free(6);
        due("worst() of 64", x.worst(), NOT);
        x.answer(0, true);
        x.answer(1, true);
        x.answer(2, true);
        due("worst() of the eight left", x.worst(), 3);
        promise23Star();
    }

    // 5 wants four of the five at least: each question takes one of its six states away.
    private static void promise23Star() {
        LessonWays x = free(5);
        x.item(EITHER, 30, 0);
        x.other(5, 29);
        x.other(5, 27);
        x.other(5, 23);
        x.other(5, 15);
        x.answer(5, true);
        due("left() of the star", x.left(), 6);
        due("worst() of the star", x.worst(), 5);
        x.answer(2, true);
        due("worst() of five of it", x.worst(), 4);
        LessonWays y = new LessonWays();
        y.item(EITHER, 2, 0);
        y.item(EITHER, 1, 0);
        y.other(0, 0);
        y.other(1, 0);
        y.item(PLAIN, 3, 0);
        due("left() of five", y.left(), 5);
        due("worst() of five", y.worst(), 3);
    }

    private static void promise24() {
        LessonWays x = school();
        x.hours(0, 5);
        x.hours(3, 2);
        due("cost(0, 4)", x.cost(0, 4), 3);
        due("cost(0, 48): a group costs all its hours", x.cost(0, 48), 9);
        due("cost(0, 16): a part of a group", x.cost(0, 16), 9);
        due("cost(1, 4)", x.cost(1, 4), 2);
        due("cost(9, 9)", x.cost(9, 9), 0);
        due("cost(9, 0)", x.cost(9, 0), 0);
        due("cost(0, 63)", x.cost(0, 63), 11);
        due("cost(2, 0)", x.cost(2, 0), NOT);
        due("cost(64, 0)", x.cost(64, 0), BAD);
        due("cost(0, 64)", x.cost(0, 64), BAD);
        due("cost(-1, 0)", x.cost(-1, 0), BAD);
        due("cost(0, -1)", x.cost(0, -1), BAD);
        due("cost(2, 64): BAD goes ahead of NOT", x.cost(2, 64), BAD);
        LessonWays y = chain(2);
        y.item(PLAIN, 4095, 0);
        due("cost(1, 4): none is come to", y.cost(1, 4), NONE);
        due("cost(0, 4): NOT goes ahead of NONE", y.cost(0, 4), NOT);
        LessonWays z = free(12);
        for (int i = 0; i < 12; i++) {
            z.hours(i, 100);
        }
        due("cost(0, 4095)", z.cost(0, 4095), 1200);
    }

    private static void promise25() {
        LessonWays x = school();
        x.hours(0, 5);
        x.hours(3, 2);
        due("way(0, 4, 0)", x.way(0, 4, 0), 3);
        due("way(0, 4, 1)", x.way(0, 4, 1), 2);
        due("way(0, 4, 2)", x.way(0, 4, 2), NONE);
        due("way(0, 4, -1)", x.way(0, 4, -1), NONE);
        due("way(0, 4, MOST)", x.way(0, 4, MOST), NONE);
        due("way(0, 48, 0): the least of like ways", x.way(0, 48, 0), 0);
        due("way(0, 48, 1)", x.way(0, 48, 1), 3);
        due("way(0, 32, 2): a group by its least item", x.way(0, 32, 2), 4);
        due("way(9, 9, 0)", x.way(9, 9, 0), NONE);
        due("way(2, 0, 0)", x.way(2, 0, 0), NOT);
        due("way(64, 0, 0)", x.way(64, 0, 0), BAD);
        due("way(0, 64, 0)", x.way(0, 64, 0), BAD);
        due("way(0, -1, 0)", x.way(0, -1, 0), BAD);
        LessonWays y = chain(2);
        y.item(PLAIN, 4095, 0);
        due("way(1, 4, 0): there is none", y.way(1, 4, 0), NONE);
        LessonWays z = free(12);
        for (int k = 0; k < 12; k++) {
            due("way(0, 4095, " + k + ")", z.way(0, 4095, k), k);
        }
        due("way(0, 4095, 12)", z.way(0, 4095, 12), NONE);
        promise25Like();
    }

    // 3 is come to by 0 (3 hours), or by 1 and 2 (1 and 2 hours): the ways cost the same.
    private static void promise25Like() {
        LessonWays x = free(3);
        x.item(EITHER, 6, 0);
        x.other(3, 1);
        x.hours(0, 3);
        x.hours(2, 2);
        due("cost(0, 8)", x.cost(0, 8), 4);
        due("way(0, 8, 0): the first item decides", x.way(0, 8, 0), 0);
        due("way(0, 8, 1)", x.way(0, 8, 1), 3);
        due("way(0, 8, 2)", x.way(0, 8, 2), NONE);
        x.hours(0, 4);
        due("way(0, 8, 0): the cost goes ahead", x.way(0, 8, 0), 1);
        due("way(0, 8, 1)", x.way(0, 8, 1), 2);
        due("way(0, 8, 2)", x.way(0, 8, 2), 3);
    }

    private static void promise26() {
        LessonWays x = school();
        due("ways(0)", x.ways(0), 1);
        due("ways(9)", x.ways(9), 2);
        due("ways(63)", x.ways(63), 17);
        due("ways(4)", x.ways(4), NOT);
        due("ways(64)", x.ways(64), BAD);
        due("ways(-1)", x.ways(-1), BAD);
        due("ways(4095)", free(12).ways(4095), 479001600);
        due("ways(1) of the bottom", chain(3).ways(1), 1);
    }

    private static void promise27() {
        LessonWays x = school();
        due("learn(1)", x.learn(1), NOT);
        due("learn(0)", x.learn(0), 1);
        due("learn(0) again", x.learn(0), NOT);
        due("learn(5): a group that does not fit", x.learn(5), NOT);
        due("learn(3)", x.learn(3), 9);
        due("learn(5): by any item of the group", x.learn(5), 57);
        due("count(1)", x.count(1), 57);
        due("learn(4) again", x.learn(4), NOT);
        due("learn(6)", x.learn(6), BAD);
        due("learn(-1)", x.learn(-1), BAD);
        due("learn(0) of the core", chain(2).learn(0), NOT);
        LessonWays y = fading();
        y.pass(7);
        due("learn(1)", y.learn(1), 3);
        due("pass(2): learning is using", y.pass(2), 3);
        due("pass(1)", y.pass(1), 1);
    }

    private static void promise28() {
        LessonWays x = fading();
        due("use(1): not in the state", x.use(1), NOT);
        x.learn(1);
        x.learn(2);
        x.learn(3);
        due("use(0): not fading", x.use(0), NOT);
        due("use(3): not fading", x.use(3), NOT);
        due("use(4)", x.use(4), BAD);
        due("use(-1)", x.use(-1), BAD);
        x.pass(2);
        due("use(1)", x.use(1), 1);
        due("pass(2)", x.pass(2), 15);
        due("use(2)", x.use(2), 1);
        due("use(1)", x.use(1), 1);
        due("pass(2)", x.pass(2), 15);
        due("pass(1): not used", x.pass(1), 1);
        due("use(1): forgotten", x.use(1), NOT);
    }

    private static void promise29() {
        LessonWays x = fading();
        due("pass(0)", x.pass(0), BAD);
        due("pass(101)", x.pass(101), BAD);
        due("pass(-1)", x.pass(-1), BAD);
        due("count(2)", x.count(2), 0);
        due("pass(100)", x.pass(100), 1);
        due("count(2)", x.count(2), 100);
        x.pupil(15);
        due("pass(2)", x.pass(2), 15);
        due("pass(1): all that rests on it is gone", x.pass(1), 1);
        due("count(3)", x.count(3), 3);
        x.learn(1);
        x.learn(2);
        due("count(1): learnt again", x.count(1), 7);
        due("pass(2): used when learnt again", x.pass(2), 7);
        due("pass(1)", x.pass(1), 1);
        due("count(3): each time", x.count(3), 5);
        LessonWays y = new LessonWays();
        y.item(FADING, 0, 50);
        y.item(FADING, 0, 1);
        y.item(EITHER, 1, 0);
        y.other(2, 2);
        y.pupil(7);
        due("pass(1)", y.pass(1), 7);
        due("pass(1): the other way stays", y.pass(1), 5);
        due("pass(48)", y.pass(48), 5);
        due("pass(1)", y.pass(1), 0);
        due("count(2)", y.count(2), 51);
        promise29Group();
        LessonWays z = new LessonWays();
        z.item(FADING, 0, 1);
        z.item(FADING, 0, 1);
        z.item(FADING, 0, 2);
        z.pupil(7);
        due("pass(2): two on one day", z.pass(2), 4);
        due("count(3)", z.count(3), 2);
    }

    // A group rests on a fading item: it goes as a whole, with what rests on it.
    private static void promise29Group() {
        LessonWays x = new LessonWays();
        x.item(FADING, 0, 3);
        x.item(JOINT, 1, 0);
        x.item(JOINT, 0, 0);
        x.item(PLAIN, 4, 0);
        x.item(PLAIN, 0, 0);
        x.pupil(31);
        due("pass(3)", x.pass(3), 31);
        due("pass(100)", x.pass(100), 16);
        due("count(3)", x.count(3), 4);
    }

    private static void promise30() {
        LessonWays x = fading();
        x.learn(1);
        x.pass(10);
        due("count(3)", x.count(3), 1);
        due("pupil(7)", x.pupil(7), 1);
        due("count(1)", x.count(1), 7);
        due("count(2)", x.count(2), 0);
        due("count(3)", x.count(3), 0);
        x.pass(1);
        due("pupil(5)", x.pupil(5), NOT);
        due("pupil(0)", x.pupil(0), NOT);
        due("pupil(16)", x.pupil(16), BAD);
        due("pupil(-1)", x.pupil(-1), BAD);
        due("count(2): refusals change nothing", x.count(2), 1);
        x.use(1);
        due("pupil(3)", x.pupil(3), 1);
        due("pass(2)", x.pass(2), 3);
        due("pass(1): all was used on day 0", x.pass(1), 1);
    }

    private static void promise31() {
        LessonWays x = new LessonWays();
        due("sheet(4, 0, 1)", x.sheet(4, 0, 1), BAD);
        due("sheet(-1, 0, 1)", x.sheet(-1, 0, 1), BAD);
        due("sheet(0, 3, 1)", x.sheet(0, 3, 1), BAD);
        due("sheet(0, -1, 1)", x.sheet(0, -1, 1), BAD);
        due("sheet(0, 0, 41)", x.sheet(0, 0, 41), BAD);
        due("sheet(4, 0, -1): BAD goes ahead", x.sheet(4, 0, -1), BAD);
        due("count(7): BAD is no finding", x.count(7), 0);
        due("sheet(0, 0, -1)", x.sheet(0, 0, -1), SIZE);
        due("sheet(0, 0, LEAST)", x.sheet(0, 0, LEAST), SIZE);
        due("count(7)", x.count(7), 5);
        due("lose(0): a finding makes none", x.lose(0), NULL);
        due("sheet(0, 2, 40)", x.sheet(0, 2, 40), 40);
        due("get(0, 2, 39)", x.get(0, 2, 39), 0);
        x.put(0, 2, 39, 5);
        due("sheet(0, 0, -1)", x.sheet(0, 0, -1), SIZE);
        due("get(0, 2, 39): a finding leaves the row", x.get(0, 2, 39), 5);
        due("sheet(0, 2, 40): a new row", x.sheet(0, 2, 40), 40);
        due("get(0, 2, 39)", x.get(0, 2, 39), 0);
        due("sheet(3, 0, 0)", x.sheet(3, 0, 0), 0);
        due("lose(3)", x.lose(3), 0);
    }

    private static void promise32() {
        LessonWays x = new LessonWays();
        due("lose(0)", x.lose(0), NULL);
        due("count(7)", x.count(7), 1);
        x.sheet(0, 1, 7);
        due("lose(0)", x.lose(0), 7);
        due("lose(0) again", x.lose(0), NULL);
        due("lose(4)", x.lose(4), BAD);
        due("lose(-1)", x.lose(-1), BAD);
    }

    private static void promise33() {
        LessonWays x = new LessonWays();
        x.sheet(0, 0, 2);
        x.sheet(1, 1, 2);
        x.sheet(2, 2, 2);
        due("put(0, 0, 0, 384)", x.put(0, 0, 0, 384), 1);
        due("get(0, 0, 0)", x.get(0, 0, 0), -128);
        due("put(1, 1, 1, 98304)", x.put(1, 1, 1, 98304), 1);
        due("get(1, 1, 1)", x.get(1, 1, 1), -32768);
        due("put(2, 2, 1, LEAST)", x.put(2, 2, 1, LEAST), 1);
        due("get(2, 2, 1)", x.get(2, 2, 1), LEAST);
        due("get(2, 2, 0)", x.get(2, 2, 0), 0);
        due("put(4, 0, 0, 0)", x.put(4, 0, 0, 0), BAD);
        due("put(-1, 0, 0, 0)", x.put(-1, 0, 0, 0), BAD);
        due("put(0, 3, 0, 0)", x.put(0, 3, 0, 0), BAD);
        due("put(3, -1, 0, 0): BAD goes ahead", x.put(3, -1, 0, 0), BAD);
        due("count(7)", x.count(7), 0);
        due("put(3, 0, 9, 0)", x.put(3, 0, 9, 0), NULL);
        due("count(7)", x.count(7), 1);
        due("put(0, 1, 9, 0): CAST goes ahead", x.put(0, 1, 9, 0), CAST);
        due("count(7)", x.count(7), 3);
        due("put(0, 0, 2, 0)", x.put(0, 0, 2, 0), INDEX);
        due("count(7)", x.count(7), 2);
        due("put(0, 0, -1, 0)", x.put(0, 0, -1, 0), INDEX);
        due("put(0, 0, MOST, 0)", x.put(0, 0, MOST, 0), INDEX);
    }

    private static void promise34() {
        LessonWays x = new LessonWays();
        x.sheet(0, 1, 2);
        x.put(0, 1, 1, -7);
        due("get(0, 1, 1)", x.get(0, 1, 1), -7);
        due("get(4, 1, 1)", x.get(4, 1, 1), LEAST);
        due("get(0, 3, 1)", x.get(0, 3, 1), LEAST);
        due("count(7): BAD is no finding", x.count(7), 0);
        due("get(1, 1, 1)", x.get(1, 1, 1), LEAST);
        due("count(7)", x.count(7), 1);
        due("get(0, 2, 5)", x.get(0, 2, 5), LEAST);
        due("count(7)", x.count(7), 3);
        due("get(0, 1, 2)", x.get(0, 1, 2), LEAST);
        due("count(7)", x.count(7), 2);
        due("get(0, 1, -1)", x.get(0, 1, -1), LEAST);
        due("get(-1, 1, 0)", x.get(-1, 1, 0), LEAST);
    }

    private static void promise35() {
        LessonWays x = new LessonWays();
        x.sheet(0, 2, 5);
        x.sheet(1, 2, 3);
        x.sheet(2, 1, 3);
        for (int i = 0; i < 5; i++) {
            x.put(0, 2, i, i + 1);
        }
        due("copy(0, 1, 1, 0, 2)", x.copy(0, 1, 1, 0, 2), 1);
        due("get(1, 2, 0)", x.get(1, 2, 0), 2);
        due("get(1, 2, 1)", x.get(1, 2, 1), 3);
        due("get(1, 2, 2)", x.get(1, 2, 2), 0);
        due("copy(0, 0, 0, 1, 4): as they were", x.copy(0, 0, 0, 1, 4), 1);
        int[] upwards = {1, 1, 2, 3, 4};
        for (int i = 0; i < 5; i++) {
            due("get(0, 2, " + i + ")", x.get(0, 2, i), upwards[i]);
        }
        due("copy(0, 2, 0, 1, 3): as they were", x.copy(0, 2, 0, 1, 3), 1);
        int[] downwards = {1, 2, 3, 4, 4};
        for (int i = 0; i < 5; i++) {
            due("get(0, 2, " + i + ")", x.get(0, 2, i), downwards[i]);
        }
        due("copy(0, 5, 1, 3, 0): none, from the ends", x.copy(0, 5, 1, 3, 0), 1);
        promise35Refused(x);
    }

    private static void promise35Refused(LessonWays x) {
        due("copy(4, 0, 0, 0, 0)", x.copy(4, 0, 0, 0, 0), BAD);
        due("copy(0, 0, -1, 0, 0)", x.copy(0, 0, -1, 0, 0), BAD);
        due("copy(3, 0, 4, 0, 0): BAD goes ahead", x.copy(3, 0, 4, 0, 0), BAD);
        due("count(7)", x.count(7), 0);
        due("copy(3, 0, 0, 0, 0)", x.copy(3, 0, 0, 0, 0), NULL);
        due("copy(0, 0, 3, 0, 0)", x.copy(0, 0, 3, 0, 0), NULL);
        due("copy(0, -1, 2, 0, 1): STORE goes ahead", x.copy(0, -1, 2, 0, 1), STORE);
        due("count(7)", x.count(7), 4);
        due("copy(0, -1, 1, 0, 1)", x.copy(0, -1, 1, 0, 1), INDEX);
        due("copy(0, 0, 1, -1, 1)", x.copy(0, 0, 1, -1, 1), INDEX);
        due("copy(0, 0, 1, 0, -1)", x.copy(0, 0, 1, 0, -1), INDEX);
        due("copy(0, 0, 1, 0, 4)", x.copy(0, 0, 1, 0, 4), INDEX);
        due("copy(1, 1, 0, 0, 3)", x.copy(1, 1, 0, 0, 3), INDEX);
        due("copy(0, 6, 1, 0, 0)", x.copy(0, 6, 1, 0, 0), INDEX);
        due("copy(0, 0, 1, 4, 0)", x.copy(0, 0, 1, 4, 0), INDEX);
        due("copy(0, MOST, 1, 0, MOST)", x.copy(0, MOST, 1, 0, MOST), INDEX);
        due("copy(0, 1, 1, 1, MOST)", x.copy(0, 1, 1, 1, MOST), INDEX);
        due("count(7)", x.count(7), 2);
        due("get(1, 2, 0): findings change nothing", x.get(1, 2, 0), 2);
    }

    private static void promise36() {
        LessonWays x = school();
        due("nearest(63)", x.nearest(63), 63);
        due("nearest(2): the least of like ones", x.nearest(2), 0);
        due("nearest(48)", x.nearest(48), 0);
        due("nearest(49)", x.nearest(49), 57);
        due("nearest(25)", x.nearest(25), 9);
        due("nearest(64)", x.nearest(64), BAD);
        due("nearest(-1)", x.nearest(-1), BAD);
        due("nearest(0) without the core", chain(3).nearest(0), 1);
        due("nearest(6)", chain(3).nearest(6), 7);
        due("nearest(4)", chain(3).nearest(4), 1);
    }

    private static void promise37() {
        LessonWays x = school();
        due("far(0, 0)", x.far(0, 0), 0);
        due("far(12, 10)", x.far(12, 10), 2);
        due("far(0, 63)", x.far(0, 63), 6);
        due("far(64, 0)", x.far(64, 0), BAD);
        due("far(0, 64)", x.far(0, 64), BAD);
        due("far(-1, -1)", x.far(-1, -1), BAD);
    }

    private static void promise38() {
        LessonWays x = school();
        int[] base = {1, 3, 7, 8, 12, 57};
        for (int k = 0; k < base.length; k++) {
            due("base(" + k + ")", x.base(k), base[k]);
        }
        due("base(6)", x.base(6), NONE);
        due("base(-1)", x.base(-1), NONE);
        due("base(MOST)", x.base(MOST), NONE);
        due("base(0) of no items", new LessonWays().base(0), NONE);
        due("base(0): the bottom is none of it", chain(2).base(0), 3);
        due("base(1)", chain(2).base(1), NONE);
    }

    private static void promise39() {
        LessonWays x = school();
        due("atom(2, 0)", x.atom(2, 0), 7);
        due("atom(2, 1)", x.atom(2, 1), 12);
        due("atom(2, 2)", x.atom(2, 2), NONE);
        due("atom(2, -1)", x.atom(2, -1), NONE);
        due("atom(4, 0): the group with it", x.atom(4, 0), 57);
        due("atom(5, 0): the group with it", x.atom(5, 0), 57);
        due("atom(5, 1)", x.atom(5, 1), NONE);
        due("atom(0, 0)", x.atom(0, 0), 1);
        due("atom(0, 1): others rest on it", x.atom(0, 1), NONE);
        due("atom(6, 0)", x.atom(6, 0), BAD);
        due("atom(-1, 0)", x.atom(-1, 0), BAD);
        due("atom(0, 0) of the core", chain(3).atom(0, 0), NONE);
    }

    /** The school with a row of shorts: 2, 63, 49 and 4096 + 25. */
    private static LessonWays marked() {
        LessonWays x = school();
        int[] marks = {2, 63, 49, 4096 + 25};
        x.sheet(1, 1, 4);
        for (int i = 0; i < marks.length; i++) {
            x.put(1, 1, i, marks[i]);
        }
        x.sheet(2, 2, 0);
        return x;
    }

    private static void promise40() {
        LessonWays x = marked();
        due("misfit(1)", x.misfit(1), 3);
        due("misfit(2)", x.misfit(2), 0);
        x.sheet(3, 2, 1);
        x.put(3, 2, 0, 34);
        due("misfit(3) of a single one", x.misfit(3), 2);
        due("misfit(0)", x.misfit(0), NULL);
        due("count(7)", x.count(7), 1);
        due("misfit(4)", x.misfit(4), BAD);
        due("misfit(-1)", x.misfit(-1), BAD);
        x.put(1, 1, 0, 64 + 2048);
        due("misfit(1): as far as there are items", x.misfit(1), 2);
        x.sheet(3, 0, 1);
        x.put(3, 0, 0, -1);
        due("misfit(3) of a byte -1", x.misfit(3), 0);
        LessonWays y = free(11);
        y.item(PLAIN, 2047, 0);
        y.sheet(0, 0, 1);
        y.put(0, 0, 0, -1);
        due("misfit(0): a byte's sign reaches all 12 bits", y.misfit(0), 0);
        y.put(0, 0, 0, -2);
        due("misfit(0)", y.misfit(0), 1);
    }

    private static void promise41() {
        LessonWays x = marked();
        due("odd(1, 1, 1)", x.odd(1, 1, 1), 1);
        due("odd(1, 1, 0)", x.odd(1, 1, 0), 0);
        due("odd(1, 3, 0)", x.odd(1, 3, 0), 1);
        due("odd(1, 3, 1)", x.odd(1, 3, 1), 0);
        due("odd(1, 4, 1)", x.odd(1, 4, 1), 1);
        due("odd(1, 0, 1)", x.odd(1, 0, 1), 0);
        due("odd(2, 0, 1)", x.odd(2, 0, 1), 0);
        due("odd(1, 6, 1)", x.odd(1, 6, 1), BAD);
        due("odd(1, -1, 1)", x.odd(1, -1, 1), BAD);
        due("odd(1, 0, 2)", x.odd(1, 0, 2), BAD);
        due("odd(1, 0, -1)", x.odd(1, 0, -1), BAD);
        due("odd(4, 0, 1)", x.odd(4, 0, 1), BAD);
        due("odd(0, 0, 2): BAD goes ahead", x.odd(0, 0, 2), BAD);
        due("count(7)", x.count(7), 0);
        due("odd(0, 0, 1)", x.odd(0, 0, 1), NULL);
        due("count(7)", x.count(7), 1);
    }

    private static void promise42() {
        LessonWays x = marked();
        due("seen(1, 0, 0): 63, 49, 25", x.seen(1, 0, 0), 16);
        due("seen(1, 0, 1)", x.seen(1, 0, 1), 16 + 8 + 32);
        due("seen(1, 0, 2)", x.seen(1, 0, 2), 62);
        due("seen(1, 5, 0)", x.seen(1, 5, 0), 17);
        due("seen(2, 5, 0): no items", x.seen(2, 5, 0), 31);
        due("seen(1, 0, 40)", x.seen(1, 0, 40), 62);
        due("seen(1, 0, 41)", x.seen(1, 0, 41), BAD);
        due("seen(1, 0, -1)", x.seen(1, 0, -1), BAD);
        due("seen(1, 6, 0)", x.seen(1, 6, 0), BAD);
        due("seen(1, -1, 0)", x.seen(1, -1, 0), BAD);
        due("seen(4, 0, 0)", x.seen(4, 0, 0), BAD);
        due("seen(0, 0, 41): BAD goes ahead", x.seen(0, 0, 41), BAD);
        due("count(7)", x.count(7), 0);
        due("seen(0, 0, 0)", x.seen(0, 0, 0), NULL);
        due("count(7)", x.count(7), 1);
    }

    private static void promise43() {
        LessonWays x = marked();
        due("common(1): the least of like ones", x.common(1), 0);
        x.put(1, 1, 0, 57);
        due("common(1)", x.common(1), 57);
        due("common(2)", x.common(2), NOT);
        due("common(4)", x.common(4), BAD);
        due("common(-1)", x.common(-1), BAD);
        due("count(7)", x.count(7), 0);
        due("common(0)", x.common(0), NULL);
        due("count(7)", x.count(7), 1);
        x.put(1, 1, 2, 0);
        x.put(1, 1, 0, 63);
        due("common(1): the most, not the least", x.common(1), 63);
        x.sheet(3, 2, 1);
        x.put(3, 2, 0, 15);
        due("common(3) of a single one", x.common(3), 15);
        x.sheet(3, 2, 3);
        x.put(3, 2, 0, 63);
        due("common(3): the zeros", x.common(3), 0);
        x.put(3, 2, 1, 63);
        due("common(3): two of three", x.common(3), 63);
    }

    private static void promise44() {
        LessonWays x = chain(4);
        x.sheet(0, 2, 2);
        x.put(0, 2, 0, 3);
        x.put(0, 2, 1, 12);
        x.test(20, 10);
        x.answer(3, true);
        due("judge(0, 0)", x.judge(0, 0), 4);
        due("left()", x.left(), 4);
        due("count(4)", x.count(4), 4);
        due("count(5): luck as it is", x.count(5), 20);
        due("count(6): slip as it is", x.count(6), 10);
        due("weight(1)", x.weight(1), 90L * 20 * 80 * 80);
        due("weight(3)", x.weight(3), 90L * 90 * 80 * 80);
        due("weight(15)", x.weight(15), 90L * 90 * 10 * 10);
        due("judge(0, 2)", x.judge(0, 2), INDEX);
        due("judge(0, -1)", x.judge(0, -1), INDEX);
        due("count(7)", x.count(7), 2);
        due("judge(1, 0)", x.judge(1, 0), NULL);
        due("judge(4, 0)", x.judge(4, 0), BAD);
        due("judge(-1, 0)", x.judge(-1, 0), BAD);
        due("count(4): refusals change nothing", x.count(4), 4);
        x.test(0, 0);
        x.put(0, 2, 0, 5);
        due("judge(0, 0): NOT ends it", x.judge(0, 0), 2);
        due("likely()", x.likely(), 1);
        due("judge(0, 1): NOT at once", x.judge(0, 1), 0);
        due("left(): the test began anew", x.left(), 4);
        due("count(4)", x.count(4), 0);
        LessonWays y = free(12);
        y.test(1, 1);
        y.sheet(0, 2, 1);
        due("judge(0, 0): FULL ends it", y.judge(0, 0), 6);
        due("count(4)", y.count(4), 6);
        LessonWays z = new LessonWays();
        z.sheet(0, 2, 1);
        due("judge(0, 0) of no items", z.judge(0, 0), 0);
    }

    private static void promise45() {
        LessonWays x = fading();
        x.test(7, 9);
        x.unsure(1, true);
        x.unsure(1, true);
        x.pupil(15);
        x.pass(4);
        x.pass(1);
        x.learn(1);
        x.sheet(0, 0, -1);
        due("count(0)", x.count(0), 4);
        due("count(1)", x.count(1), 3);
        due("count(2)", x.count(2), 5);
        due("count(3)", x.count(3), 3);
        due("count(4)", x.count(4), 2);
        due("count(5)", x.count(5), 7);
        due("count(6)", x.count(6), 9);
        due("count(7)", x.count(7), 5);
        x.lose(0);
        due("count(7)", x.count(7), 1);
        x.sheet(0, 0, 1);
        due("count(7): the latest finding stays", x.count(7), 1);
        due("count(8)", x.count(8), BAD);
        due("count(-1)", x.count(-1), BAD);
    }

    private static long told(LessonWays x) {
        long h = 17;
        for (int what = 0; what <= 6; what++) {
            h = 31 * h + x.count(what);
        }
        h = 31 * h + x.states();
        for (int i = 0; i < x.count(0); i++) {
            for (int what = 0; what <= 4; what++) {
                h = 31 * h + x.about(i, what);
            }
        }
        for (int k = 0; k < x.states(); k++) {
            h = 31 * h + x.at(k);
            h = 31 * h + x.weight(x.at(k));
        }
        return h;
    }

    private static void promise46() {
        LessonWays x = new LessonWays();
        due("digest() of a new object", x.digest(), told(x));
        LessonWays y = fading();
        y.test(99, 98);
        y.unsure(1, true);
        y.answer(2, true);
        y.pupil(15);
        y.pass(3);
        y.hours(2, 77);
        due("digest()", y.digest(), told(y));
        long before = y.digest();
        y.lose(0);
        due("digest() without the finding", y.digest(), before);
        due("digest() of the school", school().digest(), told(school()));
        LessonWays z = school();
        z.hours(0, 5);
        z.hours(3, 2);
        due("digest() as the shared test has it", z.digest(), -7528858466001419681L);
    }

    // As many items, states and answers as there can be: no call oversteps a row.
    private static void greatest() {
        LessonWays x = free(10);
        x.item(JOINT, 0, 3);
        due("item(2, 0, 2)", x.item(JOINT, 0, 2), 11);
        due("states()", x.states(), 4096);
        due("next(0)", x.next(0), 4095);
        due("last(4095)", x.last(4095), 4095);
        due("core(4095)", x.core(4095), 4095);
        due("nearest(4095)", x.nearest(4095), 4095);
        due("base(11)", x.base(11), 2048);
        due("base(12)", x.base(12), NONE);
        due("atom(11, 0)", x.atom(11, 0), 2048);
        due("atom(11, 1)", x.atom(11, 1), NONE);
        due("cost(0, 4095)", x.cost(0, 4095), 12);
        due("way(0, 4095, 11)", x.way(0, 4095, 11), 11);
        due("ways(4095)", x.ways(4095), 479001600);
        due("at(4095)", x.at(4095), 4095);
        due("learn(11)", x.learn(11), 2048);
        due("use(11)", x.use(11), NOT);
        due("pass(100)", x.pass(100), 2048);
        due("ask()", x.ask(), 0);
        due("unsure(11, true)", x.unsure(11, true), 2048);
        due("likely()", x.likely(), 2048);
        for (int i = 0; i < 9; i++) {
            due("answer(" + i + ", true)", x.answer(i, true), 1024 >> i);
        }
        due("worst()", x.worst(), 2);
        greatestSheet(x);
    }

    private static void greatestSheet(LessonWays x) {
        x.sheet(0, 1, 40);
        x.sheet(1, 1, 40);
        for (int i = 0; i < 40; i++) {
            due("put(0, 1, " + i + ", ..)", x.put(0, 1, i, i == 39 ? 4095 : 1), 1);
        }
        due("copy(0, 0, 1, 0, 40)", x.copy(0, 0, 1, 0, 40), 1);
        due("get(1, 1, 39)", x.get(1, 1, 39), 4095);
        due("misfit(1)", x.misfit(1), 0);
        due("odd(1, 11, 1)", x.odd(1, 11, 1), 0);
        due("seen(1, 0, 38)", x.seen(1, 0, 38), 0);
        due("seen(1, 0, 39)", x.seen(1, 0, 39), 4094);
        due("common(1)", x.common(1), 1);
        due("judge(1, 39)", x.judge(1, 39), 1 + 5);
        due("lose(1)", x.lose(1), 40);
    }

    private static void constants() {
        due("NONE", LessonWays.NONE, NONE);
        due("BAD", LessonWays.BAD, BAD);
        due("FULL", LessonWays.FULL, FULL);
        due("NOT", LessonWays.NOT, NOT);
    }

    private static void run(int number) {
        promise = number;
        switch (number) {
            case 0 -> constants();
            case 1 -> promise1();
            case 2 -> promise2();
            case 3 -> promise3();
            case 4 -> promise4();
            case 5 -> promise5();
            case 6 -> promise6();
            case 7 -> promise7();
            case 8 -> promise8();
            case 9 -> promise9();
            case 10 -> promise10();
            case 11 -> promise11();
            case 12 -> promise12();
            case 13 -> promise13();
            case 14 -> promise14();
            case 15 -> promise15();
            case 16 -> promise16();
            case 17 -> promise17();
            case 18 -> promise18();
            case 19 -> promise19();
            case 20 -> promise20();
            case 21 -> promise21();
            case 22 -> promise22();
            case 23 -> promise23();
            case 24 -> promise24();
            case 25 -> promise25();
            case 26 -> promise26();
            case 27 -> promise27();
            case 28 -> promise28();
            case 29 -> promise29();
            case 30 -> promise30();
            case 31 -> promise31();
            case 32 -> promise32();
            case 33 -> promise33();
            case 34 -> promise34();
            case 35 -> promise35();
            case 36 -> promise36();
            case 37 -> promise37();
            case 38 -> promise38();
            case 39 -> promise39();
            case 40 -> promise40();
            case 41 -> promise41();
            case 42 -> promise42();
            case 43 -> promise43();
            case 44 -> promise44();
            case 45 -> promise45();
            case 46 -> promise46();
            default -> greatest();
        }
    }

    public static void main(String[] args) {
        for (int number = 0; number <= 47; number++) {
            run(number);
        }
        System.out.println(wrong == 0 ? "all promises hold" : wrong + " answers are not as due");
        if (wrong != 0) {
            System.exit(1);
        }
    }
}
