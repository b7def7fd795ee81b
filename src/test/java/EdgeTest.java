import java.io.IOException;
import java.lang.reflect.InvocationTargetException;
import java.lang.reflect.Method;
import java.lang.reflect.Modifier;
import java.nio.file.Files;
import java.nio.file.Path;
import java.util.ArrayList;
import java.util.HashMap;
import java.util.LinkedHashMap;
import java.util.List;
import java.util.Map;
import java.util.Set;
import java.util.TreeSet;
import java.util.regex.Matcher;
import java.util.regex.Pattern;

// Each sentence of the document that names an edge, with a table of calls of its own: just inside, just outside,
// nothing at all, as many as there can be and one more, and which refusal goes ahead where two fit.
//
// A table is a run of calls on a new object, "call = answer that is due". {0 3} is the set of 0 and 3 in it; "5 times"
// repeats a call; a line without a bracket is a run of calls told below (RUNS).
//
// Of each call that only reads, and of each that is refused, the test sees as well that it changes nothing: two objects
// live through the same run, one without this call, and then all that can be seen of the two is compared. This is done
// as the table has it, and again with a test and a pupil in the middle of their ways.
public final class EdgeTest {
    // An object is used for 512 calls at most: those of a table, and some 330 that look at what became of it.
    private static final int MOST_CALLS = 150;
    private static final Pattern CALL = Pattern.compile("(?:(\\d+) times )?(\\w+)\\((.*)\\)(?: = (.+))?");
    private static final Pattern EDGES_OF_TEXT = Pattern.compile("\\b(BAD|FULL|NOT|NONE|NULL|CAST|STORE|INDEX|SIZE|\\d+)\\b");

    private static final Set<String> READERS = Set.of(
        "about", "served", "states", "state", "at", "top", "next", "last", "core", "reason", "left", "ask", "likely",
        "weight", "weights", "worst", "cost", "way", "ways", "get", "nearest", "far", "base", "atom", "misfit", "odd",
        "seen", "common", "count", "digest");

    private static final Map<String, Long> NUMBERS = numbers();
    private static final Map<String, Method> METHODS = methods();
    private static final Map<String, String> RUNS = runs();

    private static final Map<String, String> sections = new LinkedHashMap<>();
    private static final Map<String, String> quoted = new HashMap<>();
    private static int edges = 0;
    private static int quietCalls = 0;
    private static int wrong = 0;

    private record Call(String text, Method method, Object[] arguments, Long due) { }

    private static Map<String, Long> numbers() {
        Map<String, Long> numbers = new HashMap<>();
        String[] names = {"NONE", "BAD", "FULL", "NOT", "NULL", "INDEX", "CAST", "STORE", "SIZE", "LEAST", "MOST",
            "PLAIN", "EITHER", "JOINT", "FADING", "CORE"};
        long[] values = {-1, -2, -3, -4, -11, -12, -13, -14, -15, Integer.MIN_VALUE, Integer.MAX_VALUE, 0, 1, 2, 3, 4};
        for (int i = 0; i < names.length; i++) {
            numbers.put(names[i], values[i]);
        }
        return numbers;
    }

    private static Map<String, Method> methods() {
        Map<String, Method> methods = new HashMap<>();
        for (Method m : LessonWays.class.getDeclaredMethods()) {
            if (Modifier.isPublic(m.getModifiers())) {
                methods.put(m.getName(), m);
            }
        }
        return methods;
    }

    private static Map<String, String> runs() {
        Map<String, String> runs = new HashMap<>();
        StringBuilder chain = new StringBuilder("item(CORE, 0, 0)");
        for (int n = 1; n <= 12; n++) {
            runs.put("free " + n, n + " times item(PLAIN, 0, 0)");
            // 0 is core, each further one needs the one ahead of it: states {0}, {0 1}, {0 1 2}, ..
            runs.put("chain " + n, chain.toString());
            chain.append("\nitem(PLAIN, {").append(n - 1).append("}, 0)");
        }
        // 1 by 0; 2 by 1 or by 3; the group of 4 and 5 by 0 and 3: fourteen states
        runs.put("school", """
            item(PLAIN, {}, 0) = 0
            item(PLAIN, {0}, 0) = 1
            item(EITHER, {1}, 0) = 2
            other(2, {3}) = 1
            item(PLAIN, {}, 0) = 3
            item(JOINT, {0}, 0) = 4
            item(JOINT, {3}, 0) = 5
            """);
        // core 0; 1 fades in 2 days; 2 fades in 5 days and needs 1; 3 is plain and needs 2
        runs.put("fading", """
            item(CORE, {}, 0) = 0
            item(FADING, {0}, 2) = 1
            item(FADING, {1}, 5) = 2
            item(PLAIN, {2}, 0) = 3
            """);
        // of the school: 2 alone and 25 are no states, 63 is one, 49 lacks 3; sheet 2 has no items, 0 and 3 are lost
        runs.put("marked", """
            school
            sheet(1, 1, 4) = 4
            put(1, 1, 0, {1}) = 1
            put(1, 1, 1, {0 1 2 3 4 5}) = 1
            put(1, 1, 2, {0 4 5}) = 1
            put(1, 1, 3, {0 3 4}) = 1
            sheet(2, 2, 0) = 0
            """);
        // a sheet of each form, so that what a refusal might change is there
        runs.put("three sheets", """
            sheet(0, 0, 2) = 2
            put(0, 0, 0, 5) = 1
            put(0, 0, 1, 6) = 1
            sheet(1, 1, 3) = 3
            put(1, 1, 2, 7) = 1
            sheet(2, 2, 3) = 3
            put(2, 2, 0, 8) = 1
            """);
        return runs;
    }

    // ---- the terms

    private static void terms1() {
        String place = "Terms 1";
        edge(place, "ITEMS 0 .. 11 (12 at most)", """
            about(0, 0) = BAD
            item(PLAIN, 0, 0) = 0
            about(0, 0) = 0
            about(1, 0) = BAD
            10 times item(PLAIN, 0, 0)
            item(PLAIN, 0, 0) = 11
            item(PLAIN, 0, 0) = FULL
            about(11, 0) = 0
            about(12, 0) = BAD
            about(-1, 0) = BAD
            count(0) = 12
            """);
        edge(place, "HOURS (1 to 100; 1 at first)", """
            free 1
            about(0, 4) = 1
            hours(0, 0) = BAD
            hours(0, 100) = 1
            hours(0, 101) = BAD
            hours(0, 1) = 100
            about(0, 4) = 1
            """);
        edge(place, "SETS of ITEMS are told as bits (ITEM i is bit i)", """
            free 12
            learn(0) = 1
            learn(11) = 2049
            next(2049) = 2046
            """);
        edge(place, "KINDS: 0 PLAIN: NEEDS, a SET: all of it", """
            free 2
            item(PLAIN, {0 1}, 0) = 2
            item(PLAIN, {}, 0) = 3
            served(2, {}) = 0
            served(2, {0}) = 0
            served(2, {1}) = 0
            served(2, {2 3}) = 0
            served(2, {0 1}) = 1
            served(2, {0 1 2 3}) = 1
            served(3, {}) = 1
            """);
        edge(place, "1 EITHER: NEEDS, and up to 4 OTHER SETS: all of NEEDS, or all of one of these", """
            free 11
            item(EITHER, {0 1}, 0) = 11
            served(11, {2 3}) = 0
            other(11, {2 3}) = 1
            other(11, {4 5}) = 2
            other(11, {6 7}) = 3
            other(11, {8 9}) = 4
            other(11, {10}) = FULL
            served(11, {}) = 0
            served(11, {0}) = 0
            served(11, {0 1}) = 1
            served(11, {2 3}) = 1
            served(11, {4 5}) = 1
            served(11, {6 7}) = 1
            served(11, {8 9}) = 1
            served(11, {10}) = 0
            served(11, {0 2 4 6 8 10 11}) = 0
            served(11, {1 3 5 7 9}) = 0
            served(11, {0 1 2 3 4 5 6 7 8 9 10 11}) = 1
            """);
        edge(place, "2 JOINT: NEEDS, and a GROUP (0 to 3): all of NEEDS (ITEMS of one GROUP are learnt at once)", """
            item(JOINT, 0, -1) = BAD
            item(JOINT, 0, 0) = 0
            item(JOINT, 0, 3) = 1
            item(JOINT, 0, 4) = BAD
            item(JOINT, 0, 3) = 2
            item(JOINT, {1 2}, 1) = 3
            served(3, {1}) = 0
            served(3, {1 2}) = 1
            states() = 6
            learn(2) = {1 2}
            learn(0) = {0 1 2}
            learn(3) = {0 1 2 3}
            """);
        edge(place, "3 FADING: NEEDS, and DAYS (1 to 50): all of NEEDS", """
            item(FADING, 0, 0) = BAD
            item(FADING, 0, 1) = 0
            item(FADING, {0 2}, 50) = 1
            item(FADING, 0, 51) = BAD
            item(FADING, 0, 2) = 2
            served(1, {0}) = 0
            served(1, {2}) = 0
            served(1, {0 2}) = 1
            """);
        edge(place, "4 CORE: none (NEEDS are 0)", """
            item(CORE, {0}, 0) = BAD
            item(CORE, {11}, 0) = BAD
            item(CORE, 0, 0) = 0
            about(0, 1) = 0
            served(0, {}) = 1
            served(0, {0}) = 1
            """);
        terms1Lessons(place);
        terms1States(place);
    }

    private static void terms1Lessons(String place) {
        edge(place, "A LESSON is an ITEM that is not JOINT, or a GROUP with all its ITEMS (numbered by its least ITEM)", """
            item(PLAIN, 0, 0) = 0
            item(JOINT, 0, 0) = 1
            item(PLAIN, 0, 0) = 2
            item(JOINT, 0, 0) = 3
            item(JOINT, 0, 3) = 4
            item(PLAIN, {3}, 0) = 5
            way(0, {3}, 0) = 1
            way(0, {1}, 0) = 1
            way(0, {4}, 0) = 4
            way(0, {5}, 1) = 5
            next(0) = {0 1 2 3 4}
            learn(3) = {1 3}
            learn(4) = {1 3 4}
            """);
        edge(place, "or a GROUP with all its ITEMS (numbered by its least ITEM)", """
            item(JOINT, {11}, 2) = 0
            10 times item(JOINT, {0}, 2)
            states() = 1
            item(JOINT, {10}, 2) = 11
            states() = 2
            next(0) = 4095
            way(0, {11}, 0) = 0
            way(0, {11}, 1) = NONE
            learn(11) = 4095
            last(4095) = 4095
            """);
        edge(place, "It FITS a SET, if no ITEM of it is in that", """
            free 1
            2 times item(JOINT, 0, 0)
            learn(1) = {1 2}
            learn(1) = NOT
            learn(2) = NOT
            next({1 2}) = {0}
            learn(0) = {0 1 2}
            learn(0) = NOT
            next({0 1 2}) = {}
            """);
        edge(place, "each of its ITEMS is SERVED by the SET together with the LESSON itself", """
            item(PLAIN, 0, 0) = 0
            item(JOINT, {0}, 0) = 1
            item(JOINT, {3}, 0) = 2
            item(PLAIN, 0, 0) = 3
            learn(1) = NOT
            learn(0) = {0}
            learn(1) = NOT
            learn(3) = {0 3}
            next({0}) = {3}
            next({0 3}) = {1 2}
            learn(1) = {0 1 2 3}
            """);
        edge(place, "(so a GROUP may need itself; a LESSON of one ITEM that needs itself fits as well)", """
            item(JOINT, {0 1}, 0) = 0
            item(JOINT, {0}, 0) = 1
            item(PLAIN, {2}, 0) = 2
            item(EITHER, {11}, 0) = 3
            other(3, {3}) = 1
            item(FADING, {4}, 1) = 4
            item(JOINT, {6}, 1) = 5
            item(JOINT, {5}, 2) = 6
            item(JOINT, {7}, 3) = 7
            learn(1) = {0 1}
            learn(2) = {0 1 2}
            learn(3) = {0 1 2 3}
            learn(4) = {0 1 2 3 4}
            learn(5) = NOT
            learn(6) = NOT
            learn(7) = {0 1 2 3 4 7}
            served(2, {}) = 0
            states() = 32
            """);
    }

    private static void terms1States(String place) {
        edge(place, "STATES: all ITEMS that are CORE are one, the BOTTOM; a STATE and a LESSON that FITS it together are one", """
            item(PLAIN, {1}, 0) = 0
            item(CORE, 0, 0) = 1
            item(PLAIN, 0, 0) = 2
            item(CORE, 0, 0) = 3
            at(0) = {1 3}
            states() = 4
            state({}) = 0
            state({1}) = 0
            state({0 1}) = 0
            state({0 1 3}) = 1
            state({1 2 3}) = 1
            state({0 1 2 3}) = 1
            count(1) = {1 3}
            """);
        edge(place, "all ITEMS that are CORE are one, the BOTTOM", """
            12 times item(CORE, 0, 0)
            states() = 1
            at(0) = 4095
            at(1) = BAD
            state(0) = 0
            state(4094) = 0
            state(4095) = 1
            count(1) = 4095
            """);
        edge(place, "(No others.)", """
            item(PLAIN, {1}, 0) = 0
            item(PLAIN, {0}, 0) = 1
            item(PLAIN, {11}, 0) = 2
            states() = 1
            state({0 1}) = 0
            state({0}) = 0
            state({2}) = 0
            at(0) = 0
            """);
        // a group that was come to is so no more when one joins it that is not served
        edge(place, "(No others.)", """
            item(PLAIN, 0, 0) = 0
            item(JOINT, 0, 0) = 1
            states() = 4
            weights() = 4
            item(JOINT, {11}, 0) = 2
            states() = 2
            state({1}) = 0
            state({0 1}) = 0
            at(1) = {0}
            at(2) = BAD
            top() = {0}
            next({0}) = {}
            core({0 1 2}) = {0}
            weight({1}) = 0
            weights() = 2
            nearest({1 2}) = {}
            nearest({0 1 2}) = {0}
            learn(1) = NOT
            base(1) = NONE
            """);
        edge(place, "NEXT of a STATE: LESSONS that FIT it", """
            school
            next({}) = {0 3}
            next({0}) = {1 3}
            next({0 3}) = {1 2 4 5}
            next({0 1 2 3}) = {4 5}
            next({0 1 2 3 4 5}) = {}
            """);
        edge(place, "LAST of a STATE: LESSONS in it without which it is a STATE, and that FIT that one", """
            school
            last({}) = {}
            last({0}) = {0}
            last({0 1}) = {1}
            last({0 1 3}) = {1 3}
            last({0 1 2 3}) = {1 2 3}
            last({0 3 4 5}) = {4 5}
            item(CORE, 0, 0) = 6
            last({6}) = {}
            last({0 6}) = {0}
            """);
        edge(place, "THE TOP is the STATE of all that are in some STATE", """
            top() = {}
            item(CORE, 0, 0) = 0
            top() = {0}
            item(PLAIN, {11}, 0) = 1
            top() = {0}
            item(PLAIN, 0, 0) = 2
            item(PLAIN, 0, 0) = 3
            top() = {0 2 3}
            state({0 2 3}) = 1
            """);
        edge(place, "The CORE OF a SET: the greatest STATE within it (the union of all STATES within it; NONE, if the BOTTOM is not)", """
            item(CORE, 0, 0) = 0
            item(PLAIN, 0, 0) = 1
            item(PLAIN, 0, 0) = 2
            item(PLAIN, {11}, 0) = 3
            core({}) = NONE
            core({1 2 3}) = NONE
            core({0}) = {0}
            core({0 3}) = {0}
            core({0 1 3}) = {0 1}
            core({0 1 2}) = {0 1 2}
            core({0 1 2 3}) = {0 1 2}
            """);
    }

    private static void terms2() {
        String place = "Terms 2";
        edge(place, "A TEST has LEFT, a part of the STATES (all at first), each with a WEIGHT (1 at first)", """
            school
            left() = 14
            weights() = 14
            weight({}) = 1
            weight({0 1 2 3 4 5}) = 1
            weight({1}) = 0
            """);
        edge(place, "ASKING an ITEM halves LEFT: those that have it, those that have not", """
            school
            answer(0, true) = 11
            test(0, 0) = 14
            answer(0, false) = 3
            weight({}) = 1
            weight({3}) = 1
            weight({2 3}) = 1
            weight({0}) = 0
            """);
        edge(place, "The BEST ITEM: that for which the greater half is least, of like ones the least ITEM", """
            school
            ask() = 1
            answer(1, false) = 8
            ask() = 0
            answer(0, true) = 5
            ask() = 2
            answer(2, false) = 3
            ask() = 3
            """);
        edge(place, "(NONE, where one or none is LEFT)", """
            ask() = NONE
            free 12
            11 times answer(11, false) = 2048
            answer(0, true) = 1024
            answer(1, true) = 512
            answer(2, true) = 256
            answer(3, true) = 128
            answer(4, true) = 64
            answer(5, true) = 32
            answer(6, true) = 16
            answer(7, true) = 8
            answer(8, true) = 4
            answer(9, true) = 2
            ask() = 10
            answer(10, true) = 1
            ask() = NONE
            """);
        edge(place, "SURE answers leave the one half", """
            chain 3
            answer(1, true) = 2
            weight({0}) = 0
            weight({0 1}) = 1
            weight({0 1 2}) = 1
            test(0, 0) = 3
            answer(1, false) = 1
            weight({0}) = 1
            weight({0 1}) = 0
            weight({0 1 2}) = 0
            """);
        terms2Unsure(place);
        edge(place, "The WORST of a family of up to 10 STATES: how many SURE questions are enough to be left with one, whichever it is,"
            + " if they are chosen as well as can be", """
            worst() = 0
            chain 10
            left() = 10
            worst() = 4
            item(PLAIN, {9}, 0) = 10
            left() = 11
            worst() = NOT
            answer(10, false) = 10
            worst() = 4
            answer(9, false) = 9
            worst() = 4
            answer(8, false) = 8
            worst() = 3
            answer(4, false) = 4
            worst() = 2
            answer(3, false) = 3
            worst() = 2
            answer(2, false) = 2
            worst() = 1
            answer(1, false) = 1
            worst() = 0
            """);
    }

    private static void terms2Unsure(String place) {
        edge(place, "LUCK and SLIP (hundredths, 0 to 99)", """
            chain 2
            test(0, 0) = 2
            test(99, 99) = 2
            test(100, 99) = BAD
            test(99, 100) = BAD
            test(-1, 0) = BAD
            test(0, -1) = BAD
            count(5) = 99
            count(6) = 99
            """);
        edge(place, "of a STATE with the ITEM the WEIGHT becomes (100 less SLIP) times it, if the answer is right, SLIP times it,"
            + " if it is wrong; of one without it LUCK times, (100 less LUCK) times", """
            chain 2
            test(20, 10) = 2
            unsure(1, true) = 2
            weight({0}) = 20
            weight({0 1}) = 90
            unsure(1, false) = 2
            weight({0}) = 1600
            weight({0 1}) = 900
            test(99, 1) = 2
            unsure(1, false) = 2
            weight({0}) = 1
            weight({0 1}) = 1
            test(1, 99) = 2
            unsure(1, true) = 2
            weight({0}) = 1
            weight({0 1}) = 1
            """);
        edge(place, "all STATES with WEIGHT 0 leave LEFT", """
            chain 2
            test(0, 99) = 2
            unsure(1, false) = 2
            weight({0}) = 100
            unsure(1, true) = 1
            weight({0}) = 0
            weight({0 1}) = 99
            left() = 1
            test(99, 0) = 2
            unsure(1, true) = 2
            weight({0 1}) = 100
            unsure(1, false) = 1
            weight({0 1}) = 0
            weight({0}) = 99
            unsure(1, true) = 1
            weight({0 1}) = 0
            weight({0}) = 9801
            """);
        edge(place, "6 UNSURE answers at most in a TEST", """
            chain 2
            test(50, 50) = 2
            answer(0, true) = 2
            5 times unsure(1, true) = 2
            answer(0, true) = 2
            unsure(1, true) = 2
            unsure(1, true) = FULL
            unsure(1, false) = FULL
            count(4) = 6
            answer(1, true) = 1
            unsure(1, true) = FULL
            test(50, 50) = 2
            count(4) = 0
            6 times unsure(1, true) = 2
            unsure(1, true) = FULL
            """);
    }

    private static void terms3() {
        String place = "Terms 3";
        edge(place, "A PUPIL has a STATE (the BOTTOM at first), a DAY (0)", """
            count(1) = {}
            count(2) = 0
            fading
            count(1) = {0}
            count(2) = 0
            count(3) = 0
            """);
        edge(place, "of each FADING ITEM in it the DAY it was used last (learning is using)", """
            fading
            pass(9) = {0}
            learn(1) = {0 1}
            pass(2) = {0 1}
            use(1) = 1
            pass(1) = {0 1}
            use(1) = 1
            pass(2) = {0 1}
            pass(1) = {0}
            count(2) = 15
            pupil({0 1}) = 1
            pass(2) = {0 1}
            pass(1) = {0}
            """);
        edge(place, "each FADING ITEM in it that was not used in the DAYS it has (DAY less the DAY of its use above these) is FORGOTTEN", """
            item(FADING, 0, 1) = 0
            item(FADING, 0, 50) = 1
            item(FADING, 0, 50) = 2
            item(PLAIN, 0, 0) = 3
            pupil({0 1 3}) = 1
            pass(1) = {0 1 3}
            pass(1) = {1 3}
            pass(48) = {1 3}
            count(2) = 50
            count(3) = 1
            pass(1) = {3}
            count(3) = 2
            pass(100) = {3}
            count(3) = 2
            """);
        edge(place, "all such are taken away, and the STATE becomes the CORE OF what is left; again, till none is", """
            item(FADING, 0, 1) = 0
            item(FADING, 0, 1) = 1
            item(FADING, {0}, 40) = 2
            item(JOINT, {2}, 0) = 3
            item(JOINT, 0, 0) = 4
            item(EITHER, {1}, 0) = 5
            other(5, {6}) = 1
            item(FADING, 0, 2) = 6
            pupil({0 1 2 3 4 5 6}) = 1
            pass(1) = {0 1 2 3 4 5 6}
            pass(1) = {5 6}
            count(3) = 5
            pass(1) = {}
            count(3) = 7
            """);
    }

    private static void terms4() {
        String place = "Terms 4";
        edge(place, "SHEETS 0 .. 3 are LOST (at first)", """
            lose(0) = NULL
            lose(1) = NULL
            lose(2) = NULL
            lose(3) = NULL
            lose(4) = BAD
            lose(-1) = BAD
            sheet(3, 0, 1) = 1
            sheet(4, 0, 1) = BAD
            lose(3) = 1
            """);
        edge(place, "or a row of a FORM: 0 bytes, 1 shorts, 2 ints, of 0 to 40 items (0 at first)", """
            sheet(0, -1, 1) = BAD
            sheet(0, 0, 40) = 40
            sheet(1, 1, 40) = 40
            sheet(2, 2, 40) = 40
            sheet(3, 3, 1) = BAD
            sheet(3, 2, 0) = 0
            sheet(3, 2, 41) = BAD
            get(0, 0, 0) = 0
            get(0, 0, 39) = 0
            get(0, 0, 40) = LEAST
            get(1, 1, 39) = 0
            get(2, 2, 39) = 0
            put(0, 0, 39, 127) = 1
            get(0, 0, 39) = 127
            put(0, 0, 39, 128) = 1
            get(0, 0, 39) = -128
            put(1, 1, 39, 32767) = 1
            get(1, 1, 39) = 32767
            put(1, 1, 39, 32768) = 1
            get(1, 1, 39) = -32768
            put(2, 2, 39, MOST) = 1
            get(2, 2, 39) = MOST
            """);
        edge(place, "each the ANSWERS of one pupil: its lowest 12 bits, as far as there are ITEMS, are a SET (those right)", """
            free 12
            sheet(0, 2, 1) = 1
            put(0, 2, 0, 4096) = 1
            common(0) = 0
            put(0, 2, 0, 8191) = 1
            common(0) = 4095
            put(0, 2, 0, 2048) = 1
            common(0) = 2048
            sheet(1, 0, 1) = 1
            put(1, 0, 0, -128) = 1
            common(1) = 3968
            put(1, 0, 0, 127) = 1
            common(1) = 127
            """);
        edge(place, "as far as there are ITEMS", """
            sheet(0, 2, 1) = 1
            put(0, 2, 0, -1) = 1
            common(0) = {}
            free 1
            common(0) = {0}
            free 1
            common(0) = {0 1}
            misfit(0) = 0
            """);
        terms4Findings(place);
        terms4Distances(place);
    }

    private static void terms4Findings(String place) {
        edge(place, "FINDINGS (answers -10 less the number; they change nothing but count() 7): 1 NULL: the SHEET is LOST; 2 INDEX: there"
            + " is no such item; 3 CAST: it has another FORM; 4 STORE: unlike FORMS; 5 SIZE: below 0", """
            count(7) = 0
            three sheets
            lose(3) = -11
            count(7) = 1
            put(0, 0, 2, 1) = -12
            count(7) = 2
            put(0, 1, 0, 1) = -13
            count(7) = 3
            copy(0, 0, 1, 0, 1) = -14
            count(7) = 4
            sheet(0, 0, -1) = -15
            count(7) = 5
            get(0, 0, 0) = 5
            get(0, 0, 1) = 6
            count(7) = 5
            """);
    }

    private static void terms4Distances(String place) {
        edge(place, "FAR: how many ITEMS are in one of two SETS alone", """
            free 12
            far(0, 0) = 0
            far(0, 4095) = 12
            far(4095, 4095) = 0
            far({0 1 2}, {1 2 3}) = 2
            far({0}, {11}) = 2
            """);
        edge(place, "The NEAREST to a SET: of the STATES that are least FAR from it the least number", """
            item(PLAIN, {1}, 0) = 0
            item(PLAIN, {2}, 0) = 1
            item(PLAIN, {3}, 0) = 2
            item(PLAIN, 0, 0) = 3
            nearest({}) = {}
            nearest({0}) = {}
            nearest({1}) = {}
            nearest({2}) = {}
            nearest({0 1}) = {}
            nearest({0 1 2}) = {0 1 2 3}
            nearest({0 3}) = {3}
            nearest({1 3}) = {3}
            nearest({0 2}) = {}
            nearest({0 1 3}) = {0 1 2 3}
            """);
        edge(place, "The BASE: STATES that are not the union of those within them (the BOTTOM is none of it)", """
            base(0) = NONE
            item(CORE, 0, 0) = 0
            base(0) = NONE
            item(PLAIN, 0, 0) = 1
            item(PLAIN, 0, 0) = 2
            item(PLAIN, {1}, 0) = 3
            base(0) = {0 1}
            base(1) = {0 2}
            base(2) = {0 1 3}
            base(3) = NONE
            """);
        edge(place, "An ATOM of an ITEM: a STATE that has it, of whose LAST LESSONS only one there is, the one with it", """
            school
            atom(0, 0) = {0}
            atom(0, 1) = NONE
            atom(1, 0) = {0 1}
            atom(1, 1) = NONE
            atom(2, 0) = {0 1 2}
            atom(2, 1) = {2 3}
            atom(2, 2) = NONE
            atom(4, 0) = {0 3 4 5}
            atom(4, 1) = NONE
            atom(5, 0) = {0 3 4 5}
            item(CORE, 0, 0) = 6
            atom(6, 0) = NONE
            """);
        edge(place, "A NEED b of a (two ITEMS) is SEEN on a SHEET with at most e against it: so many items at most have a and not b", """
            free 2
            sheet(0, 0, 3) = 3
            put(0, 0, 0, {0}) = 1
            put(0, 0, 1, {0 1}) = 1
            put(0, 0, 2, {0}) = 1
            seen(0, 0, 0) = {}
            seen(0, 0, 1) = {}
            seen(0, 0, 2) = {1}
            seen(0, 1, 0) = {0}
            """);
    }

    private static void refusals() {
        String place = "Refusals";
        edge(place, "the first that fits: BAD -2 (a number not as told, no such thing), FULL -3, NOT -4 (as told), FINDINGS", """
            fading
            three sheets
            8 times item(PLAIN, 0, 0)
            item(5, 0, 0) = -2
            item(PLAIN, 0, 0) = -3
            item(FADING, 0, 51) = -2
            pupil(4096) = -2
            pupil(0) = -4
            cost(0, 4096) = -2
            cost(0, 0) = -4
            unsure(0, false) = -4
            6 times unsure(0, true)
            unsure(0, false) = -3
            unsure(12, false) = -2
            put(3, 3, 0, 0) = -2
            put(3, 2, 0, 0) = -11
            copy(3, 0, 4, 0, 0) = -2
            """);
        edge(place, "They change nothing (FINDINGS but count() 7)", """
            fading
            three sheets
            test(20, 10) = 4
            unsure(1, true) = 4
            learn(1) = {0 1}
            pass(1) = {0 1}
            item(JOINT, 1, 9) = BAD
            other(1, 1) = BAD
            hours(1, 0) = BAD
            learn(1) = NOT
            use(3) = NOT
            pupil({1}) = NOT
            pass(0) = BAD
            answer(0, false) = NOT
            unsure(9, true) = BAD
            put(1, 1, 3, 9) = INDEX
            copy(0, 0, 1, 0, 1) = STORE
            sheet(0, 0, -1) = SIZE
            lose(3) = NULL
            judge(3, 0) = NULL
            judge(1, 3) = INDEX
            count(1) = {0 1}
            count(2) = 1
            count(4) = 1
            count(5) = 20
            weights() = 290
            get(0, 0, 0) = 5
            pass(1) = {0 1}
            pass(1) = {0}
            """);
        edge(place, "A change of ITEMS (item(), other()) makes the TEST (LUCK, SLIP 0) and the PUPIL new", """
            fading
            item(EITHER, {3}, 0) = 4
            hours(2, 9) = 1
            sheet(1, 1, 3) = 3
            put(1, 1, 2, 7) = 1
            lose(0) = NULL
            test(20, 10) = 5
            unsure(1, true) = 5
            answer(3, false) = 3
            learn(1) = {0 1}
            pass(3) = {0}
            count(3) = 1
            hours(1, 5) = 1
            count(5) = 20
            count(2) = 3
            other(4, {0}) = 1
            count(1) = {0}
            count(2) = 0
            count(3) = 0
            count(4) = 0
            count(5) = 0
            count(6) = 0
            count(7) = 1
            left() = 8
            weights() = 8
            learn(4) = {0 4}
            test(20, 10) = 8
            unsure(1, true) = 8
            pass(1) = {0 4}
            item(PLAIN, 0, 0) = 5
            count(1) = {0}
            count(2) = 0
            count(4) = 0
            count(5) = 0
            count(6) = 0
            weights() = 16
            about(1, 4) = 5
            about(2, 4) = 9
            get(1, 1, 2) = 7
            count(7) = 1
            """);
    }

    // ---- items

    private static void promises1to3() {
        edge("Promise 1", "No ITEMS: one STATE, of none; LUCK, SLIP 0.", """
            count(0) = 0
            states() = 1
            at(0) = {}
            at(1) = BAD
            state({}) = 1
            state({0}) = BAD
            top() = {}
            next({}) = {}
            last({}) = {}
            core({}) = {}
            left() = 1
            ask() = NONE
            likely() = {}
            weight({}) = 1
            weights() = 1
            worst() = 0
            cost({}, {}) = 0
            way({}, {}, 0) = NONE
            ways({}) = 1
            nearest({}) = {}
            far({}, {}) = 0
            base(0) = NONE
            count(1) = {}
            count(2) = 0
            count(3) = 0
            count(4) = 0
            count(5) = 0
            count(6) = 0
            count(7) = 0
            pass(100) = {}
            pupil({}) = 1
            test(0, 0) = 1
            """);
        edge("Promise 1", "No ITEMS", """
            about(0, 0) = BAD
            hours(0, 1) = BAD
            other(0, 0) = BAD
            served(0, 0) = BAD
            reason(0, 0) = BAD
            answer(0, true) = BAD
            unsure(0, true) = BAD
            learn(0) = BAD
            use(0) = BAD
            atom(0, 0) = BAD
            sheet(0, 0, 1) = 1
            odd(0, 0, 0) = BAD
            seen(0, 0, 0) = BAD
            misfit(0) = 0
            common(0) = {}
            judge(0, 0) = 0
            """);
        edge("Promise 2", "An ITEM more: its number", """
            item(PLAIN, 0, 0) = 0
            item(PLAIN, 0, 0) = 1
            item(9, 0, 0) = BAD
            item(PLAIN, 0, 0) = 2
            """);
        edge("Promise 2", "kind 0 to 4", """
            item(-1, 0, 0) = BAD
            item(LEAST, 0, 0) = BAD
            item(5, 0, 0) = BAD
            item(MOST, 0, 0) = BAD
            item(0, 0, 0) = 0
            item(1, 0, 0) = 1
            item(2, 0, 0) = 2
            item(3, 0, 1) = 3
            item(4, 0, 0) = 4
            about(0, 0) = 0
            about(1, 0) = 1
            about(2, 0) = 2
            about(3, 0) = 3
            about(4, 0) = 4
            """);
        edge("Promise 2", "needs: a SET of ITEMS 0 .. 11 (perhaps ones that come later, itself; 0 for CORE)", """
            item(PLAIN, -1, 0) = BAD
            item(PLAIN, 4096, 0) = BAD
            item(PLAIN, LEAST, 0) = BAD
            item(PLAIN, MOST, 0) = BAD
            item(EITHER, 4096, 0) = BAD
            item(JOINT, -1, 0) = BAD
            item(FADING, 4096, 1) = BAD
            item(CORE, 4096, 0) = BAD
            item(CORE, -1, 0) = BAD
            item(CORE, 1, 0) = BAD
            item(CORE, 4095, 0) = BAD
            count(0) = 0
            item(PLAIN, {0 1}, 0) = 0
            about(0, 1) = {0 1}
            states() = 1
            item(PLAIN, 0, 0) = 1
            states() = 3
            item(PLAIN, 4095, 0) = 2
            about(2, 1) = 4095
            item(EITHER, {11}, 0) = 3
            item(JOINT, {11}, 0) = 4
            item(FADING, {11}, 1) = 5
            item(CORE, 0, 0) = 6
            """);
        edge("Promise 2", "extra: its GROUP (2), DAYS (3), else 0", """
            item(PLAIN, 0, 1) = BAD
            item(PLAIN, 0, -1) = BAD
            item(EITHER, 0, 1) = BAD
            item(EITHER, 0, -1) = BAD
            item(JOINT, 0, -1) = BAD
            item(JOINT, 0, 4) = BAD
            item(FADING, 0, 0) = BAD
            item(FADING, 0, -1) = BAD
            item(FADING, 0, 51) = BAD
            item(CORE, 0, 1) = BAD
            item(CORE, 0, -1) = BAD
            item(JOINT, 0, MOST) = BAD
            item(FADING, 0, MOST) = BAD
            count(0) = 0
            item(JOINT, 0, 0) = 0
            item(JOINT, 0, 3) = 1
            item(FADING, 0, 1) = 2
            item(FADING, 0, 50) = 3
            about(1, 2) = 3
            about(3, 2) = 50
            """);
        edge("Promise 2", "BAD; FULL.", """
            11 times item(PLAIN, 0, 0)
            item(FADING, {0}, 1) = 11
            item(PLAIN, 0, 0) = FULL
            item(CORE, 0, 0) = FULL
            item(PLAIN, 0, 1) = BAD
            item(PLAIN, 4096, 0) = BAD
            item(5, 0, 0) = BAD
            count(0) = 12
            states() = 3072
            """);
        edge("Promise 3", "An OTHER SET for an EITHER: how many it has", """
            item(EITHER, {11}, 0) = 0
            other(0, {0}) = 1
            item(EITHER, {11}, 0) = 1
            other(1, {10}) = 1
            other(0, {0}) = 2
            other(0, {}) = 3
            other(0, 4095) = 4
            about(0, 3) = 4
            about(1, 3) = 1
            """);
        edge("Promise 3", "BAD: the ITEM, its KIND, the SET; FULL.", """
            item(PLAIN, {11}, 0) = 0
            item(EITHER, {11}, 0) = 1
            item(JOINT, {11}, 0) = 2
            item(FADING, {11}, 1) = 3
            item(CORE, 0, 0) = 4
            other(0, 0) = BAD
            other(2, 0) = BAD
            other(3, 0) = BAD
            other(4, 0) = BAD
            other(5, 0) = BAD
            other(-1, 0) = BAD
            other(LEAST, 0) = BAD
            other(12, 0) = BAD
            other(1, -1) = BAD
            other(1, 4096) = BAD
            other(1, LEAST) = BAD
            about(1, 3) = 0
            states() = 1
            other(1, 4095) = 1
            other(1, {10}) = 2
            other(1, {9}) = 3
            other(1, {8}) = 4
            other(1, 0) = FULL
            other(1, 4096) = BAD
            other(0, 4096) = BAD
            states() = 1
            """);
    }

    private static void promises4to6() {
        edge("Promise 4", "HOURS of an ITEM: what they were. BAD.", """
            free 12
            hours(0, 1) = 1
            hours(11, 100) = 1
            hours(11, 99) = 100
            hours(11, 0) = BAD
            hours(11, 101) = BAD
            hours(11, -1) = BAD
            hours(11, LEAST) = BAD
            hours(11, MOST) = BAD
            hours(12, 5) = BAD
            hours(-1, 5) = BAD
            hours(12, 0) = BAD
            hours(11, 1) = 99
            about(0, 4) = 1
            """);
        edge("Promise 5", "Of an ITEM: 0 KIND, 1 NEEDS, 2 extra, 3 OTHER SETS, 4 HOURS. BAD.", """
            item(JOINT, 4095, 3) = 0
            item(EITHER, {0}, 0) = 1
            other(1, {1}) = 1
            hours(1, 100) = 1
            item(FADING, 0, 50) = 2
            item(CORE, 0, 0) = 3
            about(0, 0) = 2
            about(0, 1) = 4095
            about(0, 2) = 3
            about(0, 3) = 0
            about(0, 4) = 1
            about(1, 0) = 1
            about(1, 1) = 1
            about(1, 2) = 0
            about(1, 3) = 1
            about(1, 4) = 100
            about(2, 2) = 50
            about(3, 0) = 4
            about(3, 5) = BAD
            about(3, -1) = BAD
            about(3, MOST) = BAD
            about(4, 0) = BAD
            about(-1, 0) = BAD
            about(4, 5) = BAD
            """);
        edge("Promise 6", "Whether an ITEM is SERVED by a SET: 1, 0", """
            item(PLAIN, {0 2}, 0) = 0
            item(PLAIN, {}, 0) = 1
            item(PLAIN, {11}, 0) = 2
            served(0, {0 2}) = 1
            served(0, {0}) = 0
            served(0, {2}) = 0
            served(0, {0 1 2}) = 1
            served(1, {}) = 1
            served(2, {0 1 2}) = 0
            """);
        edge("Promise 6", "BAD: the ITEM, a SET that has more than the ITEMS there are", """
            free 3
            served(2, {0 1 2}) = 1
            served(2, {3}) = BAD
            served(2, {0 1 2 3}) = BAD
            served(2, {11}) = BAD
            served(2, 4096) = BAD
            served(2, -1) = BAD
            served(2, LEAST) = BAD
            served(2, MOST) = BAD
            served(3, {}) = BAD
            served(-1, {}) = BAD
            free 9
            served(11, 4095) = 1
            served(11, 4096) = BAD
            served(12, 4095) = BAD
            """);
    }

    // ---- states

    private static void promises7to10() {
        edge("Promise 7", "How many STATES there are", """
            states() = 1
            item(CORE, 0, 0) = 0
            states() = 1
            item(PLAIN, {11}, 0) = 1
            states() = 1
            item(PLAIN, 0, 0) = 2
            states() = 2
            """);
        edge("Promise 7", "How many STATES there are", """
            free 12
            states() = 4096
            """);
        edge("Promise 8", "Whether a SET is a STATE: 1, 0. BAD: as served().", """
            school
            state({}) = 1
            state({1}) = 0
            state({0 3 4}) = 0
            state({0 3 4 5}) = 1
            state(63) = 1
            state(64) = BAD
            state(127) = BAD
            state(4095) = BAD
            state(4096) = BAD
            state(-1) = BAD
            state(LEAST) = BAD
            state(MOST) = BAD
            """);
        edge("Promise 8", "Whether a SET is a STATE: 1, 0. BAD: as served().", """
            state(0) = 1
            state(1) = BAD
            free 12
            state(4095) = 1
            state(4096) = BAD
            """);
        edge("Promise 9", "STATE k, by rising numbers. BAD.", """
            school
            at(0) = 0
            at(1) = 1
            at(2) = 3
            at(3) = 7
            at(4) = 8
            at(5) = 9
            at(6) = 11
            at(7) = 12
            at(8) = 13
            at(9) = 15
            at(10) = 57
            at(11) = 59
            at(12) = 61
            at(13) = 63
            at(14) = BAD
            at(-1) = BAD
            at(LEAST) = BAD
            at(MOST) = BAD
            """);
        edge("Promise 9", "STATE k, by rising numbers. BAD.", """
            free 12
            at(4095) = 4095
            at(4096) = BAD
            """);
        edge("Promise 10", "THE TOP", """
            top() = 0
            free 11
            item(CORE, 0, 0) = 11
            top() = 4095
            """);
    }

    private static void promises11to14() {
        edge("Promise 11", "All ITEMS of LESSONS that are NEXT of a STATE (a SET). BAD; NOT: no STATE.", """
            school
            next({}) = {0 3}
            next({0 3}) = {1 2 4 5}
            next({0 1 2 3 4 5}) = {}
            next({1}) = NOT
            next({0 3 5}) = NOT
            next(64) = BAD
            next(65) = BAD
            next(-1) = BAD
            next(MOST) = BAD
            """);
        edge("Promise 12", "All ITEMS of LESSONS that are LAST of a STATE. BAD; NOT: no STATE.", """
            school
            last({}) = {}
            last({0 1 2 3 4 5}) = {1 2 4 5}
            last({1}) = NOT
            last({0 3 5}) = NOT
            last(64) = BAD
            last(65) = BAD
            last(-1) = BAD
            last(MOST) = BAD
            """);
        edge("Promise 13", "The CORE OF a SET; NONE. BAD.", """
            chain 3
            core({}) = NONE
            core({1 2}) = NONE
            core({0}) = {0}
            core({0 2}) = {0}
            core({0 1 2}) = {0 1 2}
            core(8) = BAD
            core(9) = BAD
            core(-1) = BAD
            core(LEAST) = BAD
            """);
        edge("Promise 13", "The CORE OF a SET", """
            core({}) = {}
            core({0}) = BAD
            free 12
            core(4095) = 4095
            core(2730) = 2730
            core(4096) = BAD
            """);
        edge("Promise 14", "The least ITEM of the first of NEEDS, OTHER SETS (as told) by which an ITEM is SERVED by a SET, if that is not empty", """
            free 11
            item(EITHER, {9 10}, 0) = 11
            other(11, {7 8}) = 1
            other(11, {7}) = 2
            other(11, {2 8}) = 3
            other(11, {1}) = 4
            reason(11, {0 1 2 3 4 5 6 7 8 9 10 11}) = 9
            reason(11, {0 1 2 3 4 5 6 7 8 9}) = 7
            reason(11, {1 2 7}) = 7
            reason(11, {0 1 2 8}) = 2
            reason(11, {0 1}) = 1
            """);
        edge("Promise 14", "12: it is SERVED, by an empty one; NONE: not SERVED. BAD: as served().", """
            item(PLAIN, {}, 0) = 0
            item(EITHER, {0}, 0) = 1
            other(1, {}) = 1
            other(1, {2}) = 2
            item(PLAIN, {0 1}, 0) = 2
            item(CORE, 0, 0) = 3
            reason(0, {}) = 12
            reason(0, {0 1 2 3}) = 12
            reason(1, {0}) = 0
            reason(1, {2}) = 12
            reason(1, {}) = 12
            reason(2, {0}) = NONE
            reason(2, {0 1}) = 0
            reason(3, {}) = 12
            reason(4, {}) = BAD
            reason(-1, {}) = BAD
            reason(0, {4}) = BAD
            reason(0, -1) = BAD
            reason(0, MOST) = BAD
            reason(4, {4}) = BAD
            """);
    }

    // ---- tests

    private static void promises15to18() {
        edge("Promise 15", "A new TEST, with LUCK and SLIP: how many are LEFT. BAD.", """
            chain 4
            test(20, 10) = 4
            unsure(1, true) = 4
            answer(3, false) = 3
            test(-1, 10) = BAD
            test(100, 10) = BAD
            test(20, -1) = BAD
            test(20, 100) = BAD
            test(LEAST, MOST) = BAD
            left() = 3
            weights() = 200
            count(4) = 1
            count(5) = 20
            count(6) = 10
            test(99, 0) = 4
            weights() = 4
            count(4) = 0
            count(5) = 99
            count(6) = 0
            test(0, 99) = 4
            count(5) = 0
            count(6) = 99
            """);
        edge("Promise 16", "How many are LEFT", """
            left() = 1
            free 12
            left() = 4096
            answer(11, true) = 2048
            left() = 2048
            unsure(0, true) = 1024
            left() = 1024
            """);
        edge("Promise 17", "The BEST ITEM; NONE.", """
            ask() = NONE
            chain 8
            ask() = 4
            answer(4, true) = 4
            ask() = 6
            answer(6, false) = 2
            ask() = 5
            answer(5, false) = 1
            ask() = NONE
            item(CORE, 0, 0) = 8
            ask() = 4
            """);
        edge("Promise 17", "The BEST ITEM", """
            free 12
            ask() = 0
            answer(0, false) = 2048
            ask() = 1
            test(50, 0) = 4096
            unsure(0, true) = 4096
            ask() = 0
            """);
        edge("Promise 18", "A SURE answer: ITEM known or not: how many are LEFT. BAD; NOT: none would be.", """
            chain 3
            answer(3, true) = BAD
            answer(-1, true) = BAD
            answer(MOST, false) = BAD
            answer(0, false) = NOT
            left() = 3
            answer(0, true) = 3
            answer(1, true) = 2
            answer(1, false) = NOT
            answer(0, false) = NOT
            answer(2, false) = 1
            answer(2, true) = NOT
            answer(2, false) = 1
            answer(3, false) = BAD
            weight({0 1}) = 1
            count(4) = 0
            """);
    }

    private static void promises19to23() {
        edge("Promise 19", "An UNSURE answer: right or not: how many are LEFT. BAD; FULL: 6 went ahead; NOT: none would be.", """
            chain 2
            unsure(2, true) = BAD
            unsure(-1, true) = BAD
            unsure(0, false) = NOT
            count(4) = 0
            unsure(0, true) = 2
            unsure(1, false) = 1
            unsure(1, true) = NOT
            count(4) = 2
            4 times unsure(1, false) = 1
            count(4) = 6
            unsure(1, false) = FULL
            unsure(1, true) = FULL
            unsure(2, true) = BAD
            unsure(LEAST, true) = BAD
            count(4) = 6
            weight({0}) = 1000000000000
            """);
        edge("Promise 19", "NOT: none would be", """
            chain 3
            test(0, 50) = 3
            answer(2, false) = 2
            unsure(2, true) = NOT
            left() = 2
            unsure(2, false) = 2
            answer(1, false) = 1
            unsure(1, true) = NOT
            test(50, 0) = 3
            answer(1, true) = 2
            unsure(1, false) = NOT
            unsure(0, false) = NOT
            unsure(2, false) = 1
            test(50, 50) = 3
            unsure(0, false) = 3
            """);
        edge("Promise 20", "Of those LEFT the one with the greatest WEIGHT, of like ones the least number", """
            likely() = 0
            chain 4
            likely() = {0}
            test(50, 50) = 4
            unsure(2, true) = 4
            likely() = {0}
            test(50, 49) = 4
            unsure(2, true) = 4
            likely() = {0 1 2}
            answer(1, false) = 1
            likely() = {0}
            test(0, 0) = 4
            answer(1, true) = 3
            likely() = {0 1}
            """);
        edge("Promise 21", "The WEIGHT of a STATE; 0: it is not LEFT, or none. BAD: as served().", """
            chain 3
            weight({0}) = 1
            weight({1}) = 0
            weight({}) = 0
            answer(1, true) = 2
            weight({0}) = 0
            weight({0 1}) = 1
            weight(7) = 1
            weight(8) = BAD
            weight(4096) = BAD
            weight(-1) = BAD
            weight(LEAST) = BAD
            weight(MOST) = BAD
            test(0, 0) = 3
            6 times unsure(0, true) = 3
            weight({0}) = 1000000000000
            """);
        edge("Promise 22", "The sum of all WEIGHTS", """
            weights() = 1
            free 12
            weights() = 4096
            test(99, 0) = 4096
            6 times unsure(11, true) = 4096
            weights() = 3976151345973248
            answer(11, true) = 2048
            weights() = 2048000000000000
            """);
        edge("Promise 23", "The WORST of those LEFT. NOT: there are more than 10.", """
            worst() = 0
            chain 12
            worst() = NOT
            answer(11, false) = 11
            worst() = NOT
            answer(10, false) = 10
            worst() = 4
            answer(1, true) = 9
            worst() = 4
            answer(2, true) = 8
            worst() = 3
            answer(3, true) = 7
            worst() = 3
            test(0, 0) = 12
            answer(9, false) = 9
            worst() = 4
            """);
        // 5 wants four of five: of the six states with it each question takes one away, of eight without it one half
        edge("Promise 23", "The WORST of those LEFT", """
            free 5
            item(EITHER, {1 2 3 4}, 0) = 5
            other(5, {0 2 3 4}) = 1
            other(5, {0 1 3 4}) = 2
            other(5, {0 1 2 4}) = 3
            other(5, {0 1 2 3}) = 4
            worst() = NOT
            answer(5, false) = 32
            answer(0, false) = 16
            answer(1, false) = 8
            worst() = 3
            test(0, 0) = 38
            answer(5, true) = 6
            worst() = 5
            answer(0, true) = 5
            worst() = 4
            """);
    }

    // ---- ways

    private static void promises24to26() {
        edge("Promise 24", "The least sum of HOURS of LESSONS, one behind the other, from a STATE to one that has all of a SET", """
            school
            hours(0, 5) = 1
            hours(3, 2) = 1
            hours(4, 100) = 1
            hours(5, 50) = 1
            cost({}, {}) = 0
            cost({0}, {0}) = 0
            cost({0 1 2 3 4 5}, {}) = 0
            cost({}, {2}) = 3
            cost({0}, {2}) = 2
            cost({}, {4}) = 157
            cost({}, {5}) = 157
            cost({}, {4 5}) = 157
            cost({0 3}, {4}) = 150
            """);
        edge("Promise 24", "BAD: SETS; NOT: the first is no STATE; NONE: none is come to.", """
            chain 2
            item(PLAIN, {11}, 0) = 2
            cost({0}, {2}) = NONE
            cost({0}, {1 2}) = NONE
            cost({0 1}, {0 1}) = 0
            cost({}, {0}) = NOT
            cost({2}, {2}) = NOT
            cost({}, {2}) = NOT
            cost({0}, 8) = BAD
            cost(8, {0}) = BAD
            cost({0}, -1) = BAD
            cost(-1, {0}) = BAD
            cost({}, 8) = BAD
            cost(8, 8) = BAD
            cost(LEAST, MOST) = BAD
            """);
        edge("Promise 24", "The least sum of HOURS", """
            cost(0, 0) = 0
            free 12
            hours(0, 100) = 1
            hours(1, 100) = 1
            hours(2, 100) = 1
            hours(3, 100) = 1
            hours(4, 100) = 1
            hours(5, 100) = 1
            hours(6, 100) = 1
            hours(7, 100) = 1
            hours(8, 100) = 1
            hours(9, 100) = 1
            hours(10, 100) = 1
            hours(11, 100) = 1
            cost(0, 4095) = 1200
            cost(0, 2048) = 100
            """);
        edge("Promise 25", "The k-th (from 0) LESSON of the way that costs least, told by its least ITEM", """
            school
            hours(0, 5) = 1
            hours(3, 2) = 1
            way({}, {2}, 0) = 3
            way({}, {2}, 1) = 2
            way({}, {2}, 2) = NONE
            way({}, {5}, 0) = 0
            way({}, {5}, 1) = 3
            way({}, {5}, 2) = 4
            way({}, {5}, 3) = NONE
            way({0 3}, {5}, 0) = 4
            """);
        edge("Promise 25", "of such ways the one whose LESSONS' least ITEMS are, from the first in which they part, the least"
            + " (of a way that is the beginning of another one, the shorter)", """
            free 3
            item(EITHER, {1 2}, 0) = 3
            other(3, {0}) = 1
            hours(0, 2) = 1
            way({}, {3}, 0) = 0
            way({}, {3}, 1) = 3
            way({}, {3}, 2) = NONE
            hours(0, 3) = 2
            way({}, {3}, 0) = 1
            way({}, {3}, 1) = 2
            way({}, {3}, 2) = 3
            way({}, {3}, 3) = NONE
            way({}, {2 3}, 0) = 1
            way({3}, {}, 0) = NOT
            way({}, {1}, 1) = NONE
            """);
        edge("Promise 25", "BAD, NOT as cost(); NONE: there is no way, or no such LESSON.", """
            chain 2
            item(PLAIN, {11}, 0) = 2
            way({0}, {2}, 0) = NONE
            way({0}, {1 2}, 0) = NONE
            way({0}, {0}, 0) = NONE
            way({0}, {1}, 0) = 1
            way({0}, {1}, 1) = NONE
            way({0}, {1}, -1) = NONE
            way({0}, {1}, LEAST) = NONE
            way({0}, {1}, MOST) = NONE
            way({}, {1}, 0) = NOT
            way({}, {1}, -1) = NOT
            way({0}, 8, 0) = BAD
            way(8, {0}, 0) = BAD
            way({0}, -1, 0) = BAD
            way(-1, {0}, 0) = BAD
            way({}, 8, -1) = BAD
            """);
        edge("Promise 25", "The k-th (from 0) LESSON", """
            free 12
            way(0, 4095, 0) = 0
            way(0, 4095, 11) = 11
            way(0, 4095, 12) = NONE
            """);
        edge("Promise 26", "How many rows of LESSONS lead from the BOTTOM to a STATE, as ints that wrap. BAD; NOT: no STATE.", """
            ways({}) = 1
            school
            ways({}) = 1
            ways({0}) = 1
            ways({0 3}) = 2
            ways({0 1 2 3 4 5}) = 17
            ways({1}) = NOT
            ways({0 3 4}) = NOT
            ways(64) = BAD
            ways(65) = BAD
            ways(-1) = BAD
            ways(MOST) = BAD
            """);
        // as many rows as there can be: an int holds them
        edge("Promise 26", "as ints that wrap", """
            free 12
            ways(4095) = 479001600
            ways(4094) = 39916800
            """);
    }

    // ---- the pupil

    private static void promises27to30() {
        edge("Promise 27", "A LESSON, told by any ITEM of it, is learnt: the STATE then. BAD; NOT: it does not FIT.", """
            school
            learn(6) = BAD
            learn(-1) = BAD
            learn(LEAST) = BAD
            learn(1) = NOT
            learn(4) = NOT
            learn(0) = {0}
            learn(0) = NOT
            learn(5) = NOT
            learn(3) = {0 3}
            learn(5) = {0 3 4 5}
            learn(4) = NOT
            learn(5) = NOT
            learn(12) = BAD
            item(CORE, 0, 0) = 6
            learn(6) = NOT
            learn(3) = {3 6}
            """);
        edge("Promise 28", "A FADING ITEM of the STATE is used: 1. BAD; NOT: it is not FADING, or not in the STATE.", """
            fading
            use(4) = BAD
            use(-1) = BAD
            use(MOST) = BAD
            use(1) = NOT
            use(0) = NOT
            learn(1) = {0 1}
            use(2) = NOT
            use(1) = 1
            learn(2) = {0 1 2}
            learn(3) = {0 1 2 3}
            use(3) = NOT
            use(2) = 1
            pass(2) = {0 1 2 3}
            use(1) = 1
            pass(2) = {0 1 2 3}
            use(1) = 1
            pass(1) = {0 1 2 3}
            pass(1) = {0 1}
            use(2) = NOT
            use(1) = 1
            """);
        edge("Promise 29", "So many DAYS (1 to 100) pass, one by one: the STATE then. BAD.", """
            fading
            pass(0) = BAD
            pass(-1) = BAD
            pass(101) = BAD
            pass(LEAST) = BAD
            pass(MOST) = BAD
            count(2) = 0
            pass(1) = {0}
            count(2) = 1
            pass(100) = {0}
            count(2) = 101
            learn(1) = {0 1}
            pass(100) = {0}
            count(2) = 201
            count(3) = 1
            """);
        // 0 and what needs it go on the second day, 2 holds by 3 till 3 goes on the fourth
        edge("Promise 29", "one by one", """
            item(FADING, 0, 1) = 0
            item(FADING, {0}, 9) = 1
            item(EITHER, {0}, 0) = 2
            other(2, {3}) = 1
            item(FADING, 0, 3) = 3
            pupil({0 1 2 3}) = 1
            pass(3) = {2 3}
            count(3) = 2
            pass(7) = {}
            count(3) = 4
            count(2) = 10
            """);
        edge("Promise 30", "A new PUPIL, with a STATE on DAY 0 (all in it used then): 1. BAD; NOT: no STATE.", """
            fading
            learn(1) = {0 1}
            pass(3) = {0}
            pupil({1}) = NOT
            pupil({}) = NOT
            pupil(16) = BAD
            pupil(17) = BAD
            pupil(-1) = BAD
            pupil(MOST) = BAD
            count(1) = {0}
            count(2) = 3
            count(3) = 1
            pupil({0 1 2}) = 1
            count(1) = {0 1 2}
            count(2) = 0
            count(3) = 0
            pass(2) = {0 1 2}
            pupil({0 1 2}) = 1
            pass(2) = {0 1 2}
            pass(1) = {0}
            count(3) = 2
            pupil({0}) = 1
            count(3) = 0
            """);
    }

    // ---- sheets

    private static void promises31to33() {
        edge("Promise 31", "A SHEET is a new row of a FORM with n items: n", """
            sheet(0, 0, 0) = 0
            sheet(1, 1, 1) = 1
            sheet(3, 2, 40) = 40
            put(3, 2, 39, 9) = 1
            sheet(3, 2, 40) = 40
            get(3, 2, 39) = 0
            put(3, 2, 39, 9) = 1
            sheet(3, 1, 2) = 2
            get(3, 1, 2) = LEAST
            count(7) = 2
            get(3, 2, 0) = LEAST
            count(7) = 3
            lose(3) = 2
            """);
        edge("Promise 31", "BAD: SHEET, FORM, above 40; SIZE.", """
            three sheets
            sheet(4, 0, 1) = BAD
            sheet(-1, 0, 1) = BAD
            sheet(LEAST, 0, 1) = BAD
            sheet(0, 3, 1) = BAD
            sheet(0, -1, 1) = BAD
            sheet(0, 0, 41) = BAD
            sheet(0, 0, MOST) = BAD
            sheet(4, 0, -1) = BAD
            sheet(0, 3, -1) = BAD
            count(7) = 0
            sheet(0, 0, -1) = SIZE
            count(7) = 5
            sheet(3, 0, LEAST) = SIZE
            get(0, 0, 1) = 6
            lose(3) = NULL
            """);
        edge("Promise 32", "It is LOST: how many items it had. BAD; NULL.", """
            sheet(0, 0, 0) = 0
            sheet(1, 1, 1) = 1
            sheet(3, 2, 40) = 40
            lose(2) = NULL
            lose(4) = BAD
            lose(-1) = BAD
            lose(MOST) = BAD
            count(7) = 1
            lose(0) = 0
            lose(0) = NULL
            lose(1) = 1
            lose(3) = 40
            lose(3) = NULL
            get(3, 2, 0) = LEAST
            count(7) = 1
            """);
        edge("Promise 33", "Item i, treated as of a FORM, becomes v (the lowest bits that it has): 1", """
            three sheets
            put(0, 0, 0, 127) = 1
            get(0, 0, 0) = 127
            put(0, 0, 0, 128) = 1
            get(0, 0, 0) = -128
            put(0, 0, 0, 255) = 1
            get(0, 0, 0) = -1
            put(0, 0, 0, 256) = 1
            get(0, 0, 0) = 0
            put(0, 0, 1, -129) = 1
            get(0, 0, 1) = 127
            put(1, 1, 0, 32767) = 1
            get(1, 1, 0) = 32767
            put(1, 1, 0, 32768) = 1
            get(1, 1, 0) = -32768
            put(1, 1, 2, 65536) = 1
            get(1, 1, 2) = 0
            put(2, 2, 2, MOST) = 1
            get(2, 2, 2) = MOST
            put(2, 2, 2, LEAST) = 1
            get(2, 2, 2) = LEAST
            get(2, 2, 0) = 8
            """);
        edge("Promise 33", "BAD; NULL; CAST; INDEX.", """
            three sheets
            put(4, 0, 0, 1) = BAD
            put(-1, 0, 0, 1) = BAD
            put(0, 3, 0, 1) = BAD
            put(0, -1, 0, 1) = BAD
            put(3, 3, 0, 1) = BAD
            put(0, 3, 9, 1) = BAD
            count(7) = 0
            put(3, 0, 9, 1) = NULL
            count(7) = 1
            put(0, 1, 9, 1) = CAST
            count(7) = 3
            put(0, 2, 0, 1) = CAST
            put(1, 0, 0, 1) = CAST
            put(1, 2, -1, 1) = CAST
            put(2, 0, 0, 1) = CAST
            put(2, 1, 0, 1) = CAST
            put(0, 0, 2, 1) = INDEX
            count(7) = 2
            put(0, 0, -1, 1) = INDEX
            put(0, 0, LEAST, 1) = INDEX
            put(0, 0, MOST, 1) = INDEX
            put(2, 2, 3, 1) = INDEX
            sheet(3, 0, 0) = 0
            put(3, 0, 0, 1) = INDEX
            get(0, 0, 0) = 5
            get(0, 0, 1) = 6
            """);
    }

    private static void promises34and35() {
        edge("Promise 34", "Item i of it. BAD: the least int; so are NULL, CAST, INDEX (count() 7 tells).", """
            three sheets
            get(0, 0, 0) = 5
            get(0, 0, 1) = 6
            get(1, 1, 2) = 7
            get(4, 0, 0) = LEAST
            get(-1, 0, 0) = LEAST
            get(0, 3, 0) = LEAST
            get(0, -1, 0) = LEAST
            get(3, 3, 0) = LEAST
            count(7) = 0
            get(3, 0, 9) = LEAST
            count(7) = 1
            get(0, 1, 9) = LEAST
            count(7) = 3
            get(0, 0, 2) = LEAST
            count(7) = 2
            lose(3) = NULL
            get(0, 0, -1) = LEAST
            count(7) = 2
            get(1, 1, 3) = LEAST
            get(2, 2, MOST) = LEAST
            get(2, 2, LEAST) = LEAST
            get(2, 2, 0) = 8
            """);
        edge("Promise 35", "n items of SHEET s, from i on, come to SHEET t (perhaps s, as they were), from j on: 1", """
            sheet(0, 2, 4) = 4
            put(0, 2, 0, 1) = 1
            put(0, 2, 1, 2) = 1
            put(0, 2, 2, 3) = 1
            put(0, 2, 3, 4) = 1
            copy(0, 0, 0, 1, 3) = 1
            get(0, 2, 0) = 1
            get(0, 2, 1) = 1
            get(0, 2, 2) = 2
            get(0, 2, 3) = 3
            copy(0, 1, 0, 0, 3) = 1
            get(0, 2, 0) = 1
            get(0, 2, 1) = 2
            get(0, 2, 2) = 3
            get(0, 2, 3) = 3
            copy(0, 0, 0, 0, 4) = 1
            sheet(1, 2, 2) = 2
            copy(0, 2, 1, 0, 2) = 1
            get(1, 2, 0) = 3
            get(1, 2, 1) = 3
            copy(0, 0, 1, 1, 1) = 1
            get(1, 2, 0) = 3
            get(1, 2, 1) = 1
            get(0, 2, 3) = 3
            sheet(2, 0, 40) = 40
            sheet(3, 0, 40) = 40
            put(2, 0, 39, 9) = 1
            copy(2, 0, 3, 0, 40) = 1
            get(3, 0, 39) = 9
            """);
        edge("Promise 35", "BAD: the SHEETS; NULL: s, t; STORE", """
            three sheets
            copy(4, 0, 0, 0, 1) = BAD
            copy(0, 0, 4, 0, 1) = BAD
            copy(-1, 0, 0, 0, 1) = BAD
            copy(0, 0, -1, 0, 1) = BAD
            copy(3, 0, 4, 0, 1) = BAD
            copy(4, 0, 3, 0, 1) = BAD
            count(7) = 0
            copy(3, 0, 0, 0, 1) = NULL
            copy(0, 0, 3, 0, 1) = NULL
            copy(3, 0, 3, 0, 0) = NULL
            copy(3, -1, 0, 0, 1) = NULL
            count(7) = 1
            copy(0, 0, 1, 0, 1) = STORE
            copy(1, 0, 0, 0, 0) = STORE
            copy(2, 0, 1, 0, 1) = STORE
            copy(0, -1, 1, 0, 1) = STORE
            copy(0, 0, 1, 0, 9) = STORE
            count(7) = 4
            get(1, 1, 0) = 0
            """);
        edge("Promise 35", "INDEX: below 0, not so many.", """
            three sheets
            sheet(3, 1, 5) = 5
            put(3, 1, 0, 1) = 1
            put(3, 1, 4, 2) = 1
            copy(3, -1, 1, 0, 1) = INDEX
            copy(3, 0, 1, -1, 1) = INDEX
            copy(3, 0, 1, 0, -1) = INDEX
            copy(3, 0, 1, 0, LEAST) = INDEX
            count(7) = 2
            copy(3, 0, 1, 0, 4) = INDEX
            copy(1, 0, 3, 0, 4) = INDEX
            copy(3, 3, 1, 0, 3) = INDEX
            copy(3, 0, 1, 1, 3) = INDEX
            copy(3, 5, 1, 0, 1) = INDEX
            copy(3, 0, 1, 3, 1) = INDEX
            copy(3, 6, 1, 0, 0) = INDEX
            copy(3, 0, 1, 4, 0) = INDEX
            copy(3, MOST, 1, 0, MOST) = INDEX
            copy(3, 1, 1, 1, MOST) = INDEX
            copy(3, 0, 3, 1, 5) = INDEX
            get(1, 1, 2) = 7
            copy(3, 5, 1, 3, 0) = 1
            copy(3, 4, 1, 2, 1) = 1
            get(1, 1, 2) = 2
            copy(3, 2, 1, 0, 3) = 1
            copy(3, 0, 1, 0, 3) = 1
            get(1, 1, 0) = 1
            get(1, 1, 2) = 0
            """);
    }

    private static void promises36to39() {
        edge("Promise 36", "The NEAREST to a SET. BAD.", """
            nearest({}) = {}
            nearest({0}) = BAD
            chain 3
            nearest({}) = {0}
            nearest({1}) = {0 1}
            nearest({2}) = {0}
            nearest({0 2}) = {0}
            nearest({1 2}) = {0 1 2}
            nearest(7) = {0 1 2}
            nearest(8) = BAD
            nearest(15) = BAD
            nearest(-1) = BAD
            nearest(LEAST) = BAD
            nearest(MOST) = BAD
            """);
        edge("Promise 36", "The NEAREST to a SET. BAD.", """
            free 12
            nearest(4095) = 4095
            nearest(2048) = 2048
            nearest(4096) = BAD
            """);
        edge("Promise 37", "How FAR two SETS are. BAD.", """
            far({}, {}) = 0
            far({}, {0}) = BAD
            free 3
            far({}, {0 1 2}) = 3
            far({0 1}, {1 2}) = 2
            far(7, 7) = 0
            far(8, 0) = BAD
            far(0, 8) = BAD
            far(8, 8) = BAD
            far(-1, 0) = BAD
            far(0, -1) = BAD
            far(LEAST, MOST) = BAD
            free 9
            far(0, 4095) = 12
            far(4096, 0) = BAD
            far(0, 4096) = BAD
            """);
        edge("Promise 38", "STATE k of the BASE, by rising numbers; NONE.", """
            base(0) = NONE
            school
            base(0) = {0}
            base(1) = {0 1}
            base(2) = {0 1 2}
            base(3) = {3}
            base(4) = {2 3}
            base(5) = {0 3 4 5}
            base(6) = NONE
            base(-1) = NONE
            base(LEAST) = NONE
            base(MOST) = NONE
            """);
        edge("Promise 38", "STATE k of the BASE", """
            free 12
            base(0) = 1
            base(11) = 2048
            base(12) = NONE
            """);
        edge("Promise 39", "ATOM k of an ITEM, by rising numbers; NONE. BAD: the ITEM.", """
            school
            atom(2, 0) = {0 1 2}
            atom(2, 1) = {2 3}
            atom(2, 2) = NONE
            atom(2, -1) = NONE
            atom(2, LEAST) = NONE
            atom(2, MOST) = NONE
            atom(5, 0) = {0 3 4 5}
            atom(5, 1) = NONE
            atom(6, 0) = BAD
            atom(-1, 0) = BAD
            atom(LEAST, 0) = BAD
            atom(6, -1) = BAD
            item(PLAIN, {11}, 0) = 6
            atom(6, 0) = NONE
            """);
    }

    private static void promises40to43() {
        edge("Promise 40", "How FAR all ANSWERS of a SHEET are from what is NEAREST to them, together. BAD; NULL.", """
            marked
            misfit(1) = 3
            misfit(2) = 0
            misfit(4) = BAD
            misfit(-1) = BAD
            misfit(LEAST) = BAD
            count(7) = 0
            misfit(0) = NULL
            misfit(3) = NULL
            count(7) = 1
            lose(1) = 4
            misfit(1) = NULL
            """);
        // an item that none put there is 0: the core one is missing
        edge("Promise 40", "How FAR all ANSWERS of a SHEET are from what is NEAREST to them, together", """
            chain 3
            sheet(0, 0, 0) = 0
            misfit(0) = 0
            sheet(0, 0, 1) = 1
            misfit(0) = 1
            sheet(0, 2, 40) = 40
            misfit(0) = 40
            put(0, 2, 39, {0}) = 1
            misfit(0) = 39
            put(0, 2, 0, {2}) = 1
            misfit(0) = 40
            """);
        edge("Promise 41", "How many items of a SHEET are ANSWERS that have an ITEM, but whose NEAREST has not (lucky 1), or the other way (lucky 0)", """
            marked
            odd(1, 1, 1) = 1
            odd(1, 1, 0) = 0
            odd(1, 3, 0) = 1
            odd(1, 3, 1) = 0
            odd(1, 4, 1) = 1
            odd(1, 4, 0) = 0
            odd(1, 5, 1) = 0
            odd(1, 5, 0) = 0
            odd(2, 5, 1) = 0
            odd(2, 5, 0) = 0
            """);
        edge("Promise 41", "(lucky 1), or the other way (lucky 0)", """
            chain 3
            sheet(0, 0, 0) = 0
            odd(0, 0, 0) = 0
            sheet(0, 0, 1) = 1
            odd(0, 0, 0) = 1
            odd(0, 0, 1) = 0
            sheet(0, 2, 40) = 40
            odd(0, 0, 0) = 40
            put(0, 2, 39, {2}) = 1
            odd(0, 0, 0) = 40
            odd(0, 2, 1) = 1
            odd(0, 2, 0) = 0
            put(0, 2, 0, {1 2}) = 1
            odd(0, 2, 1) = 1
            """);
        edge("Promise 41", "BAD: also lucky; NULL.", """
            marked
            odd(1, 0, 2) = BAD
            odd(1, 0, -1) = BAD
            odd(1, 6, 0) = BAD
            odd(1, -1, 0) = BAD
            odd(4, 0, 0) = BAD
            odd(-1, 0, 0) = BAD
            odd(0, 0, 2) = BAD
            odd(0, 6, 0) = BAD
            odd(MOST, LEAST, MOST) = BAD
            count(7) = 0
            odd(0, 5, 1) = NULL
            odd(0, 0, 0) = NULL
            count(7) = 1
            """);
        edge("Promise 42", "The SET of all ITEMS b, other than a, that are SEEN as NEEDS of a on a SHEET with at most e (0 to 40) against it", """
            free 3
            sheet(0, 2, 40) = 40
            seen(0, 0, 0) = {1 2}
            put(0, 2, 0, {0}) = 1
            copy(0, 0, 0, 1, 1) = 1
            copy(0, 0, 0, 2, 2) = 1
            copy(0, 0, 0, 4, 4) = 1
            copy(0, 0, 0, 8, 8) = 1
            copy(0, 0, 0, 16, 16) = 1
            copy(0, 0, 0, 32, 8) = 1
            seen(0, 0, 39) = {}
            seen(0, 0, 40) = {1 2}
            put(0, 2, 39, {0 2}) = 1
            seen(0, 0, 38) = {}
            seen(0, 0, 39) = {2}
            seen(0, 1, 0) = {0 2}
            seen(0, 2, 0) = {0}
            seen(0, 2, 1) = {0 1}
            """);
        edge("Promise 42", "(0 to 40) against it. BAD; NULL.", """
            marked
            seen(1, 0, -1) = BAD
            seen(1, 0, 41) = BAD
            seen(1, 0, LEAST) = BAD
            seen(1, 0, MOST) = BAD
            seen(1, 6, 0) = BAD
            seen(1, -1, 0) = BAD
            seen(4, 0, 0) = BAD
            seen(-1, 0, 0) = BAD
            seen(0, 6, 0) = BAD
            seen(0, 0, 41) = BAD
            count(7) = 0
            seen(0, 0, 40) = NULL
            count(7) = 1
            seen(2, 5, 0) = {0 1 2 3 4}
            """);
        edge("Promise 43", "The STATE that the most items of a SHEET are NEAREST to, of like ones the least number", """
            school
            sheet(0, 2, 5) = 5
            put(0, 2, 0, 63) = 1
            put(0, 2, 1, 12) = 1
            put(0, 2, 2, 9) = 1
            put(0, 2, 3, 12) = 1
            put(0, 2, 4, 63) = 1
            common(0) = 12
            put(0, 2, 1, {0 3 4}) = 1
            common(0) = 9
            put(0, 2, 2, 63) = 1
            common(0) = 63
            sheet(0, 0, 1) = 1
            common(0) = 0
            sheet(0, 2, 3) = 3
            put(0, 2, 1, 63) = 1
            put(0, 2, 2, 63) = 1
            common(0) = 63
            sheet(0, 2, 40) = 40
            common(0) = 0
            put(0, 2, 39, 63) = 1
            common(0) = 0
            copy(0, 39, 0, 20, 1) = 1
            copy(0, 20, 0, 21, 1) = 1
            copy(0, 20, 0, 22, 2) = 1
            copy(0, 20, 0, 24, 4) = 1
            copy(0, 20, 0, 28, 8) = 1
            copy(0, 20, 0, 36, 3) = 1
            common(0) = 0
            put(0, 2, 0, 63) = 1
            common(0) = 63
            """);
        edge("Promise 43", "BAD; NULL; NOT: it has no items.", """
            marked
            common(2) = NOT
            common(4) = BAD
            common(-1) = BAD
            common(LEAST) = BAD
            count(7) = 0
            common(0) = NULL
            count(7) = 1
            common(2) = NOT
            sheet(2, 2, 1) = 1
            common(2) = 0
            lose(2) = 1
            common(2) = NULL
            """);
    }

    private static void promises44to46() {
        edge("Promise 44", "A SHEET's item i becomes the TEST's answers: the TEST begins anew (LUCK, SLIP as they are), each ITEM from 0 on is"
            + " answered UNSURE by the item", """
            chain 2
            sheet(0, 0, 2) = 2
            put(0, 0, 1, {0}) = 1
            test(20, 10) = 2
            6 times unsure(1, true) = 2
            answer(1, true) = 1
            judge(0, 1) = 2
            count(4) = 2
            count(5) = 20
            count(6) = 10
            left() = 2
            weight({0}) = 7200
            weight({0 1}) = 900
            judge(0, 0) = 2
            weight({0}) = 800
            weight({0 1}) = 100
            """);
        edge("Promise 44", "as long as that can be (FULL, NOT end it): how many were", """
            sheet(0, 2, 3) = 3
            put(0, 2, 0, 63) = 1
            put(0, 2, 1, 31) = 1
            judge(0, 0) = 0
            count(4) = 0
            chain 6
            judge(0, 0) = 6
            weight(63) = 1000000000000
            left() = 1
            judge(0, 1) = 6
            likely() = 31
            item(PLAIN, {11}, 0) = 6
            judge(0, 0) = 6
            count(4) = 6
            judge(0, 2) = 0
            left() = 6
            weights() = 6
            count(4) = 0
            put(0, 2, 2, {0 2}) = 1
            judge(0, 2) = 2
            likely() = {0}
            count(4) = 2
            put(0, 2, 2, 62) = 1
            judge(0, 2) = 0
            """);
        edge("Promise 44", "as long as that can be (FULL, NOT end it)", """
            free 12
            sheet(0, 2, 1) = 1
            put(0, 2, 0, 4095) = 1
            judge(0, 0) = 6
            count(4) = 6
            left() = 64
            test(99, 99) = 4096
            judge(0, 0) = 6
            left() = 4096
            """);
        edge("Promise 44", "BAD; NULL; INDEX.", """
            chain 2
            three sheets
            test(20, 10) = 2
            unsure(1, true) = 2
            judge(4, 0) = BAD
            judge(-1, 0) = BAD
            judge(MOST, -1) = BAD
            count(7) = 0
            judge(3, 0) = NULL
            judge(3, -1) = NULL
            count(7) = 1
            judge(0, 2) = INDEX
            judge(0, -1) = INDEX
            judge(0, LEAST) = INDEX
            judge(0, MOST) = INDEX
            count(7) = 2
            sheet(3, 0, 0) = 0
            judge(3, 0) = INDEX
            count(4) = 1
            weights() = 110
            """);
        edge("Promise 45", "0 ITEMS, 1 the PUPIL's STATE, 2 the DAY, 3 ITEMS that this PUPIL has lost so far (FORGOTTEN, or gone with such; each time),"
            + " 4 UNSURE answers of the TEST, 5 LUCK, 6 SLIP, 7 the number of the latest FINDING (0 before any). BAD.", """
            count(7) = 0
            fading
            test(99, 1) = 4
            2 times unsure(1, true) = 4
            answer(1, true) = 3
            pupil({0 1 2 3}) = 1
            pass(3) = {0}
            count(3) = 3
            learn(1) = {0 1}
            pass(3) = {0}
            count(0) = 4
            count(1) = {0}
            count(2) = 6
            count(3) = 4
            count(4) = 2
            count(5) = 99
            count(6) = 1
            count(7) = 0
            sheet(0, 0, -1) = SIZE
            count(7) = 5
            lose(0) = NULL
            count(7) = 1
            lose(4) = BAD
            learn(0) = NOT
            count(7) = 1
            count(8) = BAD
            count(-1) = BAD
            count(LEAST) = BAD
            count(MOST) = BAD
            """);
        edge("Promise 45", "7 the number of the latest FINDING", """
            three sheets
            get(0, 0, 2) = LEAST
            count(7) = 2
            get(0, 1, 0) = LEAST
            count(7) = 3
            copy(0, 0, 1, 0, 1) = STORE
            count(7) = 4
            free 1
            count(7) = 4
            sheet(0, 0, 1) = 1
            count(7) = 4
            """);
        // reckoned without the class: 17, count() 0 to 6, states(), the item's row, the state and its weight
        edge("Promise 46", "h is 17; h becomes 31 h and each of: count() 0 to 6, states(), of each ITEM about() 0 to 4, each STATE and its weight()", """
            digest() = 13933680878674579
            item(FADING, {11}, 50) = 0
            hours(0, 100) = 1
            digest() = -759304321834284215
            test(7, 9) = 1
            unsure(0, false) = 1
            pass(2) = {}
            digest() = 817033627404257866
            lose(0) = NULL
            digest() = 817033627404257866
            """);
        edge("Promise 46", "of each ITEM about() 0 to 4, each STATE and its weight()", """
            item(EITHER, {3}, 0) = 0
            other(0, {}) = 1
            item(JOINT, {0 1}, 3) = 1
            hours(1, 100) = 1
            item(FADING, {2 3}, 50) = 2
            item(CORE, 0, 0) = 3
            digest() = 7936603766267616197
            """);
        edge("Promise 46", "each STATE and its weight()", """
            chain 3
            answer(1, true) = 2
            digest() = 6263877405368346057
            """);
        edge("Promise 46", "as longs that wrap", """
            free 12
            digest() = 1527412420223590341
            """);
        edge("Promise 46", "as longs that wrap", """
            school
            hours(0, 5) = 1
            hours(3, 2) = 1
            digest() = -7528858466001419681
            """);
    }

    // ---- how a table is read and run

    private static void edge(String place, String words, String table) {
        edges++;
        String at = place + ", \"" + words + "\": ";
        quote(place, words, at);
        List<Call> calls = new ArrayList<>();
        read(table, calls);
        if (calls.size() > MOST_CALLS) {
            fault(at + "the table is too long");
        }
        LessonWays x = new LessonWays();
        for (Call call : calls) {
            long answer = answerOf(x, call);
            if (call.due() != null && answer != call.due()) {
                fault(at + call.text() + " answered " + answer + ", due is " + call.due());
                return;
            }
        }
        for (int i = 0; i < calls.size(); i++) {
            if (isQuiet(calls.get(i))) {
                mustChangeNothing(calls, i, at);
                mustChangeNothingOnTheWay(calls, i, at);
            }
        }
    }

    private static void fault(String text) {
        wrong++;
        System.out.println(text);
    }

    private static void read(String table, List<Call> calls) {
        for (String line : table.split("\n")) {
            String text = line.strip();
            if (RUNS.containsKey(text)) {
                read(RUNS.get(text), calls);
            } else {
                readCall(text, calls);
            }
        }
    }

    private static void readCall(String text, List<Call> calls) {
        Matcher m = CALL.matcher(text);
        if (!m.matches() || !METHODS.containsKey(m.group(2))) {
            throw new IllegalArgumentException("no call: " + text);
        }
        Method method = METHODS.get(m.group(2));
        String[] told = m.group(3).isEmpty() ? new String[0] : m.group(3).split(", ");
        if (told.length != method.getParameterCount()) {
            throw new IllegalArgumentException("other arguments: " + text);
        }
        Object[] arguments = new Object[told.length];
        for (int i = 0; i < told.length; i++) {
            boolean isInt = method.getParameterTypes()[i] == int.class;
            arguments[i] = isInt ? (Object) Math.toIntExact(number(told[i])) : (Object) told[i].equals("true");
        }
        int times = m.group(1) == null ? 1 : Integer.parseInt(m.group(1));
        Long due = m.group(4) == null ? null : (Long) number(m.group(4));
        for (int i = 0; i < times; i++) {
            calls.add(new Call(text, method, arguments, due));
        }
    }

    private static long number(String told) {
        if (!told.startsWith("{")) {
            return NUMBERS.containsKey(told) ? NUMBERS.get(told) : Long.parseLong(told);
        }
        long set = 0;
        for (String item : told.substring(1, told.length() - 1).split(" ")) {
            set |= item.isEmpty() ? 0 : 1L << Integer.parseInt(item);
        }
        return set;
    }

    private static long answerOf(LessonWays x, Call call) {
        try {
            return ((Number) call.method().invoke(x, call.arguments())).longValue();
        } catch (InvocationTargetException e) {
            throw new IllegalStateException(call.text() + " threw", e.getCause());
        } catch (IllegalAccessException e) {
            throw new IllegalStateException(call.text(), e);
        }
    }

    // ---- what must change nothing

    private static boolean isQuiet(Call call) {
        return call.due() != null && (call.due() < 0 || READERS.contains(call.method().getName()));
    }

    private static void mustChangeNothing(List<Call> calls, int last, String at) {
        quietCalls++;
        Call call = calls.get(last);
        LessonWays with = after(calls, last);
        LessonWays without = after(calls, last);
        answerOf(with, call);
        if (call.due() != Integer.MIN_VALUE) {
            long finding = call.due() <= -11 && call.due() >= -15 ? -10 - call.due() : without.count(7);
            compareFinding(with, finding, call, at);
        }
        compare(with, without, call, at);
    }

    // The answer may be another one than in the table: what then is no refusal may change what it likes.
    private static void mustChangeNothingOnTheWay(List<Call> calls, int last, String at) {
        Call call = calls.get(last);
        LessonWays with = after(calls, last);
        LessonWays without = after(calls, last);
        goOnTheWay(with);
        goOnTheWay(without);
        long answer = answerOf(with, call);
        if (answer < 0 || READERS.contains(call.method().getName())) {
            compare(with, without, call, at);
        }
    }

    private static LessonWays after(List<Call> calls, int last) {
        LessonWays x = new LessonWays();
        for (int i = 0; i < last; i++) {
            answerOf(x, calls.get(i));
        }
        return x;
    }

    private static void goOnTheWay(LessonWays x) {
        x.test(30, 40);
        x.unsure(0, true);
        x.unsure(1, false);
        x.answer(2, false);
        for (int i = 0; i < 12; i++) {
            x.learn(i);
        }
        x.pass(1);
    }

    private static void compareFinding(LessonWays with, long finding, Call call, String at) {
        if (with.count(7) != finding) {
            fault(at + call.text() + " leaves count(7) as " + with.count(7) + ", due is " + finding);
        }
    }

    private static void compare(LessonWays with, LessonWays without, Call call, String at) {
        List<Long> seen = look(with);
        List<Long> due = look(without);
        if (!seen.equals(due)) {
            fault(at + call.text() + " changes something: " + seen + ", due is " + due);
        }
    }

    /** All that can be seen of an object, and what becomes of its pupil. */
    private static List<Long> look(LessonWays x) {
        List<Long> seen = new ArrayList<>();
        for (int what = 0; what <= 6; what++) {
            seen.add((long) x.count(what));
        }
        seen.add(x.digest());
        seen.add((long) x.left());
        seen.add((long) x.ask());
        seen.add((long) x.likely());
        seen.add((long) x.worst());
        seen.add(x.weights());
        lookAtOthers(x, seen);
        for (int s = 0; s < 4; s++) {
            lookAtSheet(x, s, seen);
        }
        for (int day = 0; day < 52; day++) {
            seen.add((long) x.pass(1));
            seen.add((long) x.count(3));
        }
        return seen;
    }

    private static void lookAtOthers(LessonWays x, List<Long> seen) {
        int all = x.count(0);
        for (int i = 0; i < all; i++) {
            for (int j = 0; j < all && x.about(i, 0) == 1; j++) {
                seen.add((long) x.served(i, 1 << j));
            }
        }
    }

    private static void lookAtSheet(LessonWays x, int s, List<Long> seen) {
        for (int form = 0; form < 3; form++) {
            for (int i = 0; i < 5; i++) {
                seen.add((long) x.get(s, form, i));
            }
        }
        seen.add((long) x.misfit(s));
        seen.add((long) x.lose(s));
    }

    // ---- what the document says

    private static String plain(String text) {
        return text.replaceAll("\\s+", " ");
    }

    private static void readDocument() throws IOException {
        Path path = Path.of(System.getProperty("project.dir", "."), "..", "shared", "DOC.md");
        if (!Files.exists(path)) {
            System.out.println("there is no " + path + ": the tables are run, but not held against its words");
            return;
        }
        String doc = plain(Files.readString(path));
        for (int n = 1; n <= 4; n++) {
            String end = n == 4 ? " Refusals, " : "======== " + (n + 1) + " ";
            sections.put("Terms " + n, between(doc, "======== " + n + " ", end));
        }
        sections.put("Refusals", between(doc, " Refusals, ", " Ahead of "));
        for (int n = 1; n <= 46; n++) {
            sections.put("Promise " + n, between(doc, "## Promise " + n + ": ", " ## "));
        }
    }

    private static String between(String doc, String begin, String end) {
        int from = doc.indexOf(begin) + begin.length();
        int to = doc.indexOf(end, from);
        if (from < begin.length() || to < 0) {
            throw new IllegalStateException("the document has no part from \"" + begin + "\" to \"" + end + "\"");
        }
        return doc.substring(from, to);
    }

    private static void quote(String place, String words, String at) {
        if (!sections.isEmpty() && !sections.get(place).contains(words)) {
            fault(at + "the document does not say so there");
        }
        quoted.merge(place, words, (a, b) -> a + " " + b);
    }

    /** Each number and each refusal that a part of the document names is in a sentence that has a table here. */
    private static void mustBeWhole() {
        for (String place : sections.keySet()) {
            Set<String> named = edgesIn(sections.get(place));
            named.removeAll(edgesIn(quoted.getOrDefault(place, "")));
            if (!named.isEmpty() || !quoted.containsKey(place)) {
                fault(place + " has edges without a table: " + named);
            }
        }
    }

    private static Set<String> edgesIn(String text) {
        Set<String> edges = new TreeSet<>();
        Matcher m = EDGES_OF_TEXT.matcher(text);
        while (m.find()) {
            edges.add(m.group());
        }
        return edges;
    }

    public static void main(String[] args) throws IOException {
        readDocument();
        terms1();
        terms2();
        terms3();
        terms4();
        refusals();
        promises1to3();
        promises4to6();
        promises7to10();
        promises11to14();
        promises15to18();
        promises19to23();
        promises24to26();
        promises27to30();
        promises31to33();
        promises34and35();
        promises36to39();
        promises40to43();
        promises44to46();
        mustBeWhole();
        System.out.println(wrong == 0 ? edges + " edges hold, and " + quietCalls + " calls change nothing" : wrong + " faults");
        if (wrong != 0) {
            System.exit(1);
        }
    }
}
