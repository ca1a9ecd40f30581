import java.util.ArrayList;
import java.util.HashMap;
import java.util.List;
import java.util.Map;
import java.util.function.Function;
import java.util.function.Supplier;

/**
 * Each sentence of the document that names a boundary, in the document's order: the last input
 * that is allowed, the first that is refused, and after each refused call that nothing changed.
 * No desk is used for more than 512 calls, as what it answers then is free.
 */
public final class EdgesTest {
    private static final String INDEX = IndexOutOfBoundsException.class.getName();
    private static final String ARGUMENT = IllegalArgumentException.class.getName();
    private static final String STATE = IllegalStateException.class.getName();
    private static final String UNSUPPORTED = UnsupportedOperationException.class.getName();
    private static final String NO_EXCEPTION = "no exception";

    private static final int LEAST = Integer.MIN_VALUE;
    private static final int GREATEST = Integer.MAX_VALUE;
    private static final int UNEQUAL = 0;
    private static final int ORDERED = 1;
    private static final int FAR = 2;
    private static final int SUM = 0;
    private static final int PRODUCT = 1;
    private static final int MAXIMUM = 2;
    private static final int MOST_PRINTED = 40;

    private static int wrong = 0;
    private static String sentence = "";

    // How answers are looked at.

    interface Call extends Function<DomainDesk, Object> {
    }

    /** How a desk is made, so that one can be made again, and what the document counts of it. */
    static final class State {
        final String name;
        final int variables;
        final int constraints;
        final int level;
        final boolean hasFailed;
        final Supplier<DomainDesk> maker;
        private final Map<Integer, String> untouched = new HashMap<>();

        State(String name, int variables, int constraints, int level, boolean hasFailed, Supplier<DomainDesk> maker) {
            this.name = name;
            this.variables = variables;
            this.constraints = constraints;
            this.level = level;
            this.hasFailed = hasFailed;
            this.maker = maker;
        }

        boolean has(int... some) {
            for (int x : some) {
                if (x < 0 || x >= variables) {
                    return false;
                }
            }
            return true;
        }

        /** What a desk tells that no refused call was made on. */
        String untouched(int probe) {
            return untouched.computeIfAbsent(probe, p -> probed(maker.get(), p));
        }
    }

    /** The document's words, so that a failure tells which of them do not hold. */
    private static void sentence(String words) {
        sentence = words;
    }

    private static void due(String what, Object got, Object want) {
        if (!String.valueOf(got).equals(String.valueOf(want))) {
            wrong++;
            if (wrong <= MOST_PRINTED) {
                System.out.println("'" + sentence + "': " + what + " answered " + got + ", due is " + want);
            }
        }
    }

    /** An exception counts by its name alone, if it is one that the class throws by itself. */
    private static String answerOf(DomainDesk desk, Call call) {
        try {
            return String.valueOf(call.apply(desk));
        } catch (RuntimeException e) {
            String thrower = e.getStackTrace()[0].getClassName();
            boolean isOwn = thrower.equals("DomainDesk") || thrower.startsWith("DomainDesk$");
            return isOwn ? e.getClass().getName() : e.getClass().getName() + " thrown by " + thrower;
        }
    }

    private static void allowed(State state, String what, Object want, Call call) {
        due(what + " on " + state.name, answerOf(state.maker.get(), call), want);
    }

    private static void refused(State state, String what, String want, Call call) {
        for (int probe = 0; probe < PROBES; probe++) {
            DomainDesk desk = state.maker.get();
            due(what + " on " + state.name, answerOf(desk, call), want);
            due("what is asked after " + what + " on " + state.name, probed(desk, probe), state.untouched(probe));
        }
    }

    private static final int PROBES = 4;

    /** Several ways to look, each on a desk of its own, as some change it and all need calls. */
    private static String probed(DomainDesk desk, int probe) {
        switch (probe) {
            case 0: return allOf(desk);
            case 1: return draftOf(desk);
            case 2: return levelsOf(desk);
            default: return futureOf(desk);
        }
    }

    private static String allOf(DomainDesk desk) {
        StringBuilder text = new StringBuilder();
        for (int what = -1; what <= 6; what++) {
            text.append(desk.told(what)).append(' ');
        }
        for (int n = 0; n < desk.told(1); n++) {
            text.append(desk.isImplied(n)).append(' ');
        }
        int count = desk.solutions();
        text.append(count);
        for (int x = 0; x < desk.told(0); x++) {
            text.append(' ').append(desk.domain(x)).append(' ');
            text.append(desk.extreme(x, false)).append(desk.extreme(x, true)).append(' ');
            for (int i = 0; i < count; i += i < 20 ? 1 : 20) {
                text.append(desk.value(i, x));
            }
        }
        return text.toString();
    }

    private static String draftOf(DomainDesk desk) {
        StringBuilder text = new StringBuilder();
        for (int n = 0; n < 64; n++) {
            text.append(desk.pair(n / 8, n % 8)).append(' ');
        }
        return text.toString();
    }

    private static String levelsOf(DomainDesk desk) {
        StringBuilder text = new StringBuilder();
        for (int level = desk.told(2); level >= 0; level--) {
            text.append(desk.told(2)).append(desk.told(3)).append(domainsOf(desk));
            if (level > 0) {
                text.append(desk.back());
            }
        }
        return text.toString();
    }

    /** What the next calls answer: a guess, and at level 0 a variable and constraints of each form. */
    private static String futureOf(DomainDesk desk) {
        StringBuilder text = new StringBuilder();
        text.append(answerOf(desk, d -> d.guess(0, 1, false))).append(domainsOf(desk));
        for (int level = desk.told(2); level > 0; level--) {
            desk.back();
        }
        text.append(answerOf(desk, d -> d.table(0, 1))).append(domainsOf(desk)).append(desk.solutions());
        text.append(answerOf(desk, d -> d.variable(85))).append(domainsOf(desk));
        text.append(answerOf(desk, d -> d.two(ORDERED, 0, 1, 1))).append(domainsOf(desk));
        text.append(answerOf(desk, d -> d.three(SUM, 0, 1, 2))).append(domainsOf(desk));
        text.append(answerOf(desk, d -> d.different(3))).append(domainsOf(desk));
        return text.append(desk.solutions()).append(desk.told(5)).toString();
    }

    private static String domainsOf(DomainDesk desk) {
        List<String> domains = new ArrayList<>();
        for (int x = 0; x < desk.told(0); x++) {
            domains.add(String.valueOf(desk.domain(x)));
        }
        return String.join(" ", domains);
    }

    private static String solutionsOf(DomainDesk desk) {
        List<String> solutions = new ArrayList<>();
        int count = desk.solutions();
        for (int i = 0; i < count; i++) {
            StringBuilder values = new StringBuilder();
            for (int x = 0; x < desk.told(0); x++) {
                values.append(desk.value(i, x));
            }
            solutions.add(values.toString());
        }
        return String.join(" ", solutions);
    }

    // Desks that the sentences are tried on.

    private static final State EMPTY = new State("a new desk", 0, 0, 0, false, DomainDesk::new);
    private static final State ONE_VARIABLE = new State("one variable", 1, 0, 0, false, () -> with(254));
    private static final State ORDINARY = new State("an ordinary desk", 3, 1, 0, false, EdgesTest::ordinary);
    private static final State FIVE_VARIABLES = new State("five variables", 5, 0, 0, false, () -> with(7, 7, 7, 7, 7));
    private static final State SIX_VARIABLES = new State("six variables", 6, 0, 0, false, () -> with(7, 7, 7, 7, 7, 7));
    private static final State ELEVEN = new State("eleven constraints", 3, 11, 0, false, () -> withConstraints(11));
    private static final State TWELVE = new State("twelve constraints", 3, 12, 0, false, () -> withConstraints(12));
    private static final State LEVEL_1 = new State("level 1", 4, 1, 1, false, () -> atLevel(1));
    private static final State LEVEL_19 = new State("level 19", 4, 1, 19, false, () -> atLevel(19));
    private static final State LEVEL_20 = new State("level 20", 4, 1, 20, false, () -> atLevel(20));
    private static final State FULL = new State("a full desk", 6, 12, 0, false, EdgesTest::full);
    private static final State FULL_LEVEL_1 = new State("a full desk at level 1", 6, 12, 1, false, () -> deeper(full(), 1));
    private static final State FULL_LEVEL_20 = new State("a full desk at level 20", 6, 12, 20, false, () -> deeper(full(), 20));
    private static final State FAILED = new State("a FAILED desk", 3, 1, 0, true, EdgesTest::failed);
    private static final State FULL_FAILED = new State("a full FAILED desk", 6, 12, 0, true, EdgesTest::fullFailed);
    private static final State FAILED_LEVEL_1 = new State("FAILED at level 1", 4, 1, 1, true, () -> failedAtLevel(1));
    private static final State FAILED_LEVEL_20 = new State("FAILED at level 20", 4, 1, 20, true, () -> failedAtLevel(20));
    private static final State MANY_SOLUTIONS = new State("many solutions", 6, 0, 0, false, () -> with(255, 255, 255, 255, 255, 255));
    private static final State NO_SOLUTION = new State("no solution, not FAILED", 3, 3, 0, false, EdgesTest::noSolution);

    private static final State[] STATES = {EMPTY, ONE_VARIABLE, ORDINARY, FIVE_VARIABLES, SIX_VARIABLES,
        ELEVEN, TWELVE, LEVEL_1, LEVEL_19, LEVEL_20, FULL, FULL_LEVEL_1, FULL_LEVEL_20, FAILED, FULL_FAILED,
        FAILED_LEVEL_1, FAILED_LEVEL_20, MANY_SOLUTIONS, NO_SOLUTION};

    private static DomainDesk with(int... domains) {
        DomainDesk desk = new DomainDesk();
        for (int domain : domains) {
            desk.variable(domain);
        }
        return desk;
    }

    private static State desk(int... domains) {
        return new State("a desk", domains.length, 0, 0, false, () -> with(domains));
    }

    private static DomainDesk ordinary() {
        DomainDesk desk = with(255, 126, 60);
        desk.two(ORDERED, 0, 1, 1);
        desk.pair(1, 5);
        desk.pair(2, 4);
        desk.pair(4, 2);
        return desk;
    }

    private static DomainDesk withConstraints(int count) {
        DomainDesk desk = with(255, 255, 255);
        for (int n = 0; n < count; n++) {
            desk.two(UNEQUAL, n % 2, 2, n % 5 - 7);
        }
        desk.pair(3, 3);
        desk.pair(0, 7);
        return desk;
    }

    private static DomainDesk full() {
        DomainDesk desk = withConstraints(12);
        desk.variable(15);
        desk.variable(3);
        desk.variable(1);
        return desk;
    }

    private static DomainDesk atLevel(int level) {
        DomainDesk desk = with(255, 255, 255, 254);
        desk.two(FAR, 0, 1, -1);
        desk.pair(6, 1);
        return deeper(desk, level);
    }

    /** Each guess takes one more value of the first two variables and then of the third. */
    private static DomainDesk deeper(DomainDesk desk, int level) {
        for (int n = 0; n < level; n++) {
            desk.guess(n / 7, n % 7, false);
        }
        return desk;
    }

    private static DomainDesk failed() {
        DomainDesk desk = with(1, 1, 6);
        desk.two(UNEQUAL, 0, 1, 0);
        desk.pair(2, 3);
        return desk;
    }

    private static DomainDesk fullFailed() {
        DomainDesk desk = with(1, 1, 6, 255, 255, 255);
        for (int n = 0; n < 12; n++) {
            desk.two(UNEQUAL, n % 2, 1 - n % 2, 0);
        }
        return desk;
    }

    /** FAILED by the guess that opened the level: the fourth variable has not had the value 0. */
    private static DomainDesk failedAtLevel(int level) {
        DomainDesk desk = atLevel(level - 1);
        desk.guess(3, 0, true);
        return desk;
    }

    /** Each of the constraints by itself leaves all values, but there are no three for all of them. */
    private static DomainDesk noSolution() {
        DomainDesk desk = with(3, 3, 3);
        desk.two(UNEQUAL, 0, 1, 0);
        desk.two(UNEQUAL, 1, 2, 0);
        desk.two(UNEQUAL, 0, 2, 0);
        return desk;
    }

    /** A draft of the first pairs (0, 0), (0, 1), .. */
    private static void draftPairs(DomainDesk desk, int count) {
        for (int n = 0; n < count; n++) {
            desk.pair(n / 8, n % 8);
        }
    }

    // What it is.

    private static void calls() {
        sentence("An object is used for at most 512 calls after it has been made");
        DomainDesk guessing = new DomainDesk();
        guessing.variable(255);
        for (int n = 0; n < 255; n++) {
            due("guess of run " + n, guessing.guess(0, n % 8, n % 2 == 0), true);
            due("back() of run " + n, guessing.back(), 0);
        }
        due("the 512th call, domain(0)", guessing.domain(0), 255);

        DomainDesk drafting = new DomainDesk();
        for (int n = 1; n <= 511; n++) {
            drafting.pair(n % 64 / 8, n % 8);
        }
        due("the 512th call, pair(0, 0)", drafting.pair(0, 0), 0);

        DomainDesk asking = with(255, 255, 255, 255, 255, 255);
        for (int n = 7; n <= 511; n++) {
            due("value(" + n % 100 + ", 5)", asking.value(n % 100, 5), n % 100 % 8);
        }
        due("the 512th call, solutions()", asking.solutions(), 100);
    }

    // Terms.

    private static void variables() {
        sentence("VARIABLES are 0 .. 5 at most");
        allowed(EMPTY, "variable(1)", 0, d -> d.variable(1));
        allowed(FIVE_VARIABLES, "variable(1)", 5, d -> d.variable(1));
        refused(SIX_VARIABLES, "variable(1)", UNSUPPORTED, d -> d.variable(1));
        refused(MANY_SOLUTIONS, "variable(255)", UNSUPPORTED, d -> d.variable(255));
        allowed(SIX_VARIABLES, "domain(5)", 7, d -> d.domain(5));
        allowed(SIX_VARIABLES, "two(0, 5, 4, 0)", 0, d -> d.two(UNEQUAL, 5, 4, 0));
        allowed(SIX_VARIABLES, "three(0, 5, 4, 3)", 0, d -> d.three(SUM, 5, 4, 3));
        allowed(SIX_VARIABLES, "different(63)", 0, d -> d.different(63));
        allowed(SIX_VARIABLES, "table(5, 0)", 0, d -> d.table(5, 0));
        allowed(SIX_VARIABLES, "guess(5, 2, true)", true, d -> d.guess(5, 2, true));
        allowed(SIX_VARIABLES, "value(2, 5)", 2, d -> d.value(2, 5));
        allowed(SIX_VARIABLES, "extreme(5, true)", 2, d -> d.extreme(5, true));
        allowed(SIX_VARIABLES, "told(0)", 6, d -> d.told(0));

        sentence("each has a DOMAIN, some of the values 0 .. 7, told as bits (value v by 2^v)");
        for (int v = 0; v < 8; v++) {
            DomainDesk desk = with(1 << v);
            due("domain(0) of the value " + v, desk.domain(0), 1 << v);
            due("value(0, 0) of the value " + v, desk.value(0, 0), v);
            due("solutions() of the value " + v, desk.solutions(), 1);
        }
        due("solutions of 129", solutionsOf(with(129)), "0 7");
        due("solutions of 255", solutionsOf(with(255)), "0 1 2 3 4 5 6 7");
    }

    private static void constraints() {
        sentence("CONSTRAINTS have numbers 0, 1, .., 12 at most");
        allowed(ORDINARY, "two", 1, d -> d.two(UNEQUAL, 0, 1, 0));
        allowed(ELEVEN, "two", 11, d -> d.two(UNEQUAL, 0, 1, 0));
        allowed(ELEVEN, "three", 11, d -> d.three(SUM, 0, 1, 2));
        allowed(ELEVEN, "different", 11, d -> d.different(7));
        allowed(ELEVEN, "table", 11, d -> d.table(0, 1));
        allowed(ELEVEN, "isImplied(10)", false, d -> d.isImplied(10));
        allowed(TWELVE, "isImplied(11)", false, d -> d.isImplied(11));
        allowed(TWELVE, "told(1)", 12, d -> d.told(1));
        for (State state : new State[] {TWELVE, FULL, FULL_FAILED}) {
            refused(state, "two", UNSUPPORTED, d -> d.two(UNEQUAL, 0, 1, 0));
            refused(state, "three", UNSUPPORTED, d -> d.three(SUM, 0, 1, 2));
            refused(state, "different", UNSUPPORTED, d -> d.different(7));
            refused(state, "table", UNSUPPORTED, d -> d.table(0, 1));
        }
    }

    /** Whether the only values that variables can have are such that a constraint holds. */
    private static void dueHolds(String what, boolean holds, DomainDesk desk) {
        due(what + ": told(3)", desk.told(3), holds ? 0 : 1);
        due(what + ": solutions()", desk.solutions(), holds ? 1 : 0);
        due(what + ": isImplied(0), of single values or of none", desk.isImplied(0), true);
    }

    private static DomainDesk withTwo(int kind, int a, int b, int c) {
        DomainDesk desk = with(1 << a, 1 << b);
        desk.two(kind, 0, 1, c);
        return desk;
    }

    private static void constraintsOfTwo() {
        for (int n = 0; n < 64 * 15; n++) {
            int a = n % 8;
            int b = n / 8 % 8;
            int c = n / 64 - 7;
            String what = a + ", " + b + " with c = " + c;
            sentence("0 UNEQUAL: x + c is not y");
            dueHolds(what, b - a != c, withTwo(UNEQUAL, a, b, c));
            sentence("1 ORDERED: x + c is at most y");
            dueHolds(what, b - a >= c, withTwo(ORDERED, a, b, c));
            sentence("2 FAR: x and y are c or more from each other");
            dueHolds(what, b - a >= c || a - b >= c, withTwo(FAR, a, b, c));
        }
        sentence("0 UNEQUAL: x + c is not y");
        due("x + 7 beyond all values", domainsAfter(desk(254, 255), d -> d.two(UNEQUAL, 0, 1, 7)), "254 255");
        due("0 + 7", domainsAfter(desk(1, 255), d -> d.two(UNEQUAL, 0, 1, 7)), "1 127");
        due("7 - 7", domainsAfter(desk(128, 255), d -> d.two(UNEQUAL, 0, 1, -7)), "128 254");
        sentence("1 ORDERED: x + c is at most y");
        due("by 7", domainsAfter(desk(255, 255), d -> d.two(ORDERED, 0, 1, 7)), "1 128");
        due("by 6", domainsAfter(desk(255, 255), d -> d.two(ORDERED, 0, 1, 6)), "3 192");
        due("by -7", domainsAfter(desk(255, 255), d -> d.two(ORDERED, 0, 1, -7)), "255 255");
        due("by -6 from 7", domainsAfter(desk(128, 255), d -> d.two(ORDERED, 0, 1, -6)), "128 254");
        sentence("2 FAR: x and y are c or more from each other");
        due("by 7", domainsAfter(desk(255, 255), d -> d.two(FAR, 0, 1, 7)), "129 129");
        due("by 4", domainsAfter(desk(255, 255), d -> d.two(FAR, 0, 1, 4)), "255 255");
        due("by 5", domainsAfter(desk(255, 255), d -> d.two(FAR, 0, 1, 5)), "231 231");
        due("by 0", domainsAfter(desk(8, 8), d -> d.two(FAR, 0, 1, 0)), "8 8");
        due("by 1", domainsAfter(desk(8, 8), d -> d.two(FAR, 0, 1, 1)), "0 0");
        due("by -7", domainsAfter(desk(8, 8), d -> d.two(FAR, 0, 1, -7)), "8 8");
    }

    private static String domainsAfter(State state, Call call) {
        DomainDesk desk = state.maker.get();
        call.apply(desk);
        return domainsOf(desk);
    }

    private static DomainDesk withThree(int kind, int a, int b, int c) {
        DomainDesk desk = with(1 << a, 1 << b, 1 << c);
        desk.three(kind, 0, 1, 2);
        return desk;
    }

    private static void constraintsOfThree() {
        for (int n = 0; n < 512; n++) {
            int a = n % 8;
            int b = n / 8 % 8;
            int c = n / 64;
            String what = a + ", " + b + " and " + c;
            sentence("0 SUM: x + y is z");
            dueHolds(what, c - a == b, withThree(SUM, a, b, c));
            sentence("1 PRODUCT: x times y is z");
            dueHolds(what, a * b == c, withThree(PRODUCT, a, b, c));
            sentence("2 MAXIMUM: the greater one of x and y is z");
            dueHolds(what, a <= b && b == c || b <= a && a == c, withThree(MAXIMUM, a, b, c));
        }
        sentence("0 SUM: x + y is z");
        due("7 and one more or none", domainsAfter(desk(128, 255, 255), d -> d.three(SUM, 0, 1, 2)), "128 1 128");
        due("8, which is no value", domainsAfter(desk(16, 16, 255), d -> d.three(SUM, 0, 1, 2)), "0 0 0");
        sentence("1 PRODUCT: x times y is z");
        due("with 0", domainsAfter(desk(1, 255, 255), d -> d.three(PRODUCT, 0, 1, 2)), "1 255 1");
        due("with 7", domainsAfter(desk(128, 255, 255), d -> d.three(PRODUCT, 0, 1, 2)), "128 3 129");
        due("8, which is no value", domainsAfter(desk(16, 4, 255), d -> d.three(PRODUCT, 0, 1, 2)), "0 0 0");
        sentence("2 MAXIMUM: the greater one of x and y is z");
        due("0", domainsAfter(desk(255, 255, 1), d -> d.three(MAXIMUM, 0, 1, 2)), "1 1 1");
        due("of 7", domainsAfter(desk(255, 128, 255), d -> d.three(MAXIMUM, 0, 1, 2)), "255 128 128");
    }

    private static void differentAndTable() {
        sentence("DIFFERENT: of some variables, two at least, no two have the same value");
        for (int n = 0; n < 64; n++) {
            DomainDesk desk = with(1 << n % 8, 1 << n / 8);
            desk.different(3);
            dueHolds(n % 8 + " and " + n / 8, n % 8 != n / 8, desk);
        }
        due("one value of the first", domainsAfter(desk(2, 255), d -> d.different(3)), "2 253");
        due("one value of the second", domainsAfter(desk(255, 2), d -> d.different(3)), "253 2");
        due("six of six values", domainsAfter(desk(63, 63, 63, 63, 63, 63), d -> d.different(63)), "63 63 63 63 63 63");
        due("six of five values", domainsAfter(desk(31, 31, 31, 31, 31, 31), d -> d.different(63)), "0 0 0 0 0 0");
        due("two of one value", domainsAfter(desk(255, 2, 4, 2), d -> d.different(15)), "0 0 0 0");
        due("two of one value, one is no member", domainsAfter(desk(255, 2, 4, 2), d -> d.different(7)), "249 2 4 2");

        sentence("TABLE: x and y are one of some pairs of values");
        for (int n = 0; n < 64; n++) {
            DomainDesk desk = with(1 << n % 8, 1 << n / 8);
            desk.pair(2, 5);
            desk.pair(7, 0);
            desk.table(0, 1);
            dueHolds(n % 8 + " and " + n / 8, n == 2 + 5 * 8 || n == 7, desk);
        }
        due("no pair", domainsAfter(desk(255, 255, 255), d -> d.table(0, 1)), "0 0 0");
        DomainDesk all = with(255, 255);
        draftPairs(all, 64);
        all.table(0, 1);
        due("all pairs", domainsOf(all), "255 255");
        due("isImplied(0) of all pairs", all.isImplied(0), true);
        DomainDesk most = with(255, 255);
        draftPairs(most, 63);
        most.table(0, 1);
        due("all pairs but one", domainsOf(most), "255 255");
        due("isImplied(0) of all pairs but one", most.isImplied(0), false);
    }

    private static void pruning() {
        sentence("A constraint SUPPORTS a value of one of its variables, if the others of it can have values of their domains so that it holds.");
        due("SUM by one value of each", domainsAfter(desk(17, 34, 66), d -> d.three(SUM, 0, 1, 2)), "1 2 2");
        due("three of three values, a fourth one", domainsAfter(desk(255, 3, 5, 6), d -> d.different(15)), "248 3 5 6");
        due("three of four values, a fourth one", domainsAfter(desk(255, 3, 5, 10), d -> d.different(15)), "255 3 5 10");

        sentence("PRUNING: values that a constraint of their variable does not support are taken out of domains, until there are none");
        DomainDesk chain = with(255, 255, 255, 255, 255, 255);
        for (int x = 4; x >= 0; x--) {
            chain.two(ORDERED, x, x + 1, 1);
        }
        due("a chain", domainsOf(chain), "7 14 28 56 112 224");
        chain.guess(5, 5, true);
        due("a chain, its last one the least", domainsOf(chain), "1 2 4 8 16 32");
        chain.back();
        chain.guess(0, 2, true);
        due("a chain, its first one the greatest", domainsOf(chain), "4 8 16 32 64 128");

        for (int x = 0; x < 3; x++) {
            DomainDesk sum = with(255, 255, 255, 255);
            sum.two(ORDERED, x, 3, 0);
            sum.three(SUM, 0, 1, 2);
            sum.guess(x == 0 ? 1 : 0, 2, true);
            sum.guess(x == 2 ? 1 : 2, x == 2 ? 3 : 7, true);
            due("a constraint before a SUM that leaves 5 of " + x, sum.domain(3), 128 + 64 + 32);
        }

        sentence("what is left then does not depend on any order");
        String first = "";
        for (int n = 0; n < 24; n++) {
            String left = leftInOrder(n);
            first = n == 0 ? left : first;
            due("what is left in order " + n, left, first);
        }
        due("what is left", first, "4 8 32 2");

        sentence("what can't be any more is taken away, as far as each constraint by itself tells");
        allowed(NO_SOLUTION, "domains", "3 3 3", EdgesTest::domainsOf);
        allowed(NO_SOLUTION, "told(3)", 0, d -> d.told(3));
        allowed(NO_SOLUTION, "solutions()", 0, d -> d.solutions());
        due("told(3) of the same as DIFFERENT", domainsAfter(desk(3, 3, 3), d -> d.different(7)), "0 0 0");
    }

    /** Four constraints, added in one of their 24 orders. */
    private static String leftInOrder(int order) {
        List<Call> calls = new ArrayList<>(List.of(
                d -> d.two(ORDERED, 0, 1, 1),
                d -> d.three(SUM, 0, 1, 2),
                d -> d.two(FAR, 0, 2, 3),
                d -> d.different(13)));
        DomainDesk desk = with(126, 12, 62, 2);
        int rest = order;
        for (int left = 4; left > 0; left--) {
            calls.remove(rest % left).apply(desk);
            rest /= left;
        }
        return domainsOf(desk);
    }

    private static void failing() {
        sentence("If a domain is empty then, all is FAILED, and all domains are told as empty.");
        DomainDesk desk = with(3, 3, 255);
        desk.two(UNEQUAL, 0, 1, 0);
        due("guess that leaves one value", desk.guess(0, 0, false), true);
        due("domains with one value left", domainsOf(desk), "2 1 255");
        due("told(3) with one value left", desk.told(3), 0);
        due("guess that leaves none", desk.guess(1, 0, false), false);
        due("domains with none left", domainsOf(desk), "0 0 0");
        due("told(3) with none left", desk.told(3), 1);
        allowed(FAILED, "domains", "0 0 0", EdgesTest::domainsOf);
        allowed(FAILED, "told(4)", 0, d -> d.told(4));
        allowed(EMPTY, "told(3)", 0, d -> d.told(3));

        sentence("at level 0 domains are as they were told first, pruned; that is done whenever a variable or constraint comes");
        due("a variable when it has FAILED", domainsAfter(FAILED, d -> d.variable(255)), "0 0 0 0");
        allowed(FAILED, "variable(255)", 3, d -> d.variable(255));
        allowed(FAILED, "two", 1, d -> d.two(FAR, 1, 2, 0));
        allowed(FAILED, "three", 1, d -> d.three(MAXIMUM, 0, 1, 2));
        allowed(FAILED, "different", 1, d -> d.different(6));
        allowed(FAILED, "table", 1, d -> d.table(0, 2));
        due("a constraint when it has FAILED", domainsAfter(FAILED, d -> d.two(FAR, 1, 2, 0)), "0 0 0");
        due("a variable behind a constraint", domainsAfter(ORDINARY, d -> d.variable(9)), "63 126 60 9");
        DomainDesk came = with(255, 8);
        due("domain(0) at first", came.domain(0), 255);
        came.two(ORDERED, 0, 1, 0);
        due("domain(0) with a constraint", came.domain(0), 15);

        sentence("A GUESS opens one more level, with the domains of the one before, and one of them changed; pruned, too.");
        DomainDesk guessed = with(15, 15, 15);
        guessed.two(ORDERED, 0, 1, 1);
        due("domains before", domainsOf(guessed), "7 14 15");
        guessed.guess(0, 1, true);
        due("domains of level 1", domainsOf(guessed), "2 12 15");
        guessed.guess(1, 3, false);
        due("domains of level 2", domainsOf(guessed), "2 4 15");
        guessed.guess(2, 3, false);
        due("domains of level 3", domainsOf(guessed), "2 4 7");
        due("levels", levelsOf(guessed), "30" + "2 4 7" + 2 + "20" + "2 4 15" + 1 + "10" + "2 12 15" + 0 + "00" + "7 14 15");
    }

    /** 99 solutions: 33 pairs with three values. */
    private static DomainDesk with99Solutions() {
        DomainDesk desk = with(255, 255, 7);
        draftPairs(desk, 33);
        desk.table(0, 1);
        return desk;
    }

    private static DomainDesk with100Solutions() {
        DomainDesk desk = with(255, 255, 15);
        draftPairs(desk, 25);
        desk.table(0, 1);
        return desk;
    }

    /** 101 solutions: 25 pairs with four values, and one pair with only one of them. */
    private static DomainDesk with101Solutions() {
        DomainDesk desk = with(255, 255, 15);
        draftPairs(desk, 25);
        desk.pair(7, 7);
        desk.table(0, 1);
        draftPairs(desk, 32);
        desk.pair(7, 3);
        desk.table(0, 2);
        return desk;
    }

    private static final State WITH_99 = new State("99 solutions", 3, 1, 0, false, EdgesTest::with99Solutions);
    private static final State WITH_100 = new State("100 solutions", 3, 1, 0, false, EdgesTest::with100Solutions);
    private static final State WITH_101 = new State("101 solutions", 3, 2, 0, false, EdgesTest::with101Solutions);

    private static void solutionsInOrder() {
        sentence("in order: by the value of variable 0, then of 1, and so on, the least first");
        due("all of three values and two", solutionsOf(with(140, 34)), "21 25 31 35 71 75");
        DomainDesk sum = with(14, 14, 48);
        sum.three(SUM, 0, 1, 2);
        due("SUM", solutionsOf(sum), "134 224 235 314 325");
        DomainDesk turned = with(48, 14, 14);
        turned.three(SUM, 1, 2, 0);
        due("SUM turned", solutionsOf(turned), "413 422 431 523 532");

        sentence("SOLUTIONS at a level: for each variable a value of its domain there, so that all constraints hold");
        DomainDesk changing = with(6);
        due("solutions", solutionsOf(changing), "1 2");
        changing.variable(12);
        due("solutions with one more variable", solutionsOf(changing), "12 13 22 23");
        changing.two(UNEQUAL, 0, 1, 0);
        due("solutions with a constraint", solutionsOf(changing), "12 13 23");
        changing.guess(1, 3, true);
        due("solutions at level 1", solutionsOf(changing), "13 23");
        changing.guess(0, 2, false);
        due("solutions at level 2", solutionsOf(changing), "13");
        changing.guess(0, 1, false);
        due("solutions when it has FAILED", solutionsOf(changing), "");
        changing.back();
        due("solutions back at level 2", solutionsOf(changing), "13");
        changing.back();
        due("solutions back at level 1", solutionsOf(changing), "13 23");
        changing.back();
        due("solutions back at level 0", solutionsOf(changing), "12 13 23");

        sentence("The first 100 are looked for.");
        allowed(WITH_99, "solutions()", 99, d -> d.solutions());
        allowed(WITH_100, "solutions()", 100, d -> d.solutions());
        allowed(WITH_101, "solutions()", 100, d -> d.solutions());
        for (int x = 0; x < 3; x++) {
            int each = x;
            allowed(WITH_99, "value(98, " + x + ")", "402".charAt(x), d -> d.value(98, each));
            allowed(WITH_100, "value(99, " + x + ")", "303".charAt(x), d -> d.value(99, each));
            allowed(WITH_101, "value(99, " + x + ")", "303".charAt(x), d -> d.value(99, each));
            refused(WITH_99, "value(99, " + x + ")", INDEX, d -> d.value(99, each));
            refused(WITH_100, "value(100, " + x + ")", INDEX, d -> d.value(100, each));
            refused(WITH_101, "value(100, " + x + ")", INDEX, d -> d.value(100, each));
        }

        sentence("Without variables there is one, without values.");
        allowed(EMPTY, "solutions()", 1, d -> d.solutions());
        refused(EMPTY, "value(0, 0)", INDEX, d -> d.value(0, 0));
        refused(EMPTY, "value(1, 0)", INDEX, d -> d.value(1, 0));
        refused(EMPTY, "extreme(0, false)", INDEX, d -> d.extreme(0, false));
        refused(EMPTY, "extreme(0, true)", INDEX, d -> d.extreme(0, true));
        refused(EMPTY, "domain(0)", INDEX, d -> d.domain(0));
        refused(EMPTY, "guess(0, 0, true)", INDEX, d -> d.guess(0, 0, true));
        refused(EMPTY, "isImplied(0)", INDEX, d -> d.isImplied(0));
    }

    private static void exceptions() {
        sentence("IllegalState (but for guess() and back()): the level is not 0.");
        for (State state : new State[] {LEVEL_1, LEVEL_20, FAILED_LEVEL_1, FAILED_LEVEL_20}) {
            refused(state, "variable", STATE, d -> d.variable(255));
            refused(state, "two", STATE, d -> d.two(UNEQUAL, 0, 1, 0));
            refused(state, "three", STATE, d -> d.three(SUM, 0, 1, 2));
            refused(state, "different", STATE, d -> d.different(3));
            refused(state, "table", STATE, d -> d.table(0, 1));
            allowed(state, "pair", 2, d -> d.pair(1, 6));
            allowed(state, "pair that was there", 0, d -> d.pair(6, 1));
        }
        State back = new State("back at level 0", 4, 1, 0, false, EdgesTest::backAtLevel0);
        allowed(back, "variable", 4, d -> d.variable(255));
        allowed(back, "two", 1, d -> d.two(UNEQUAL, 0, 1, 0));
        allowed(back, "three", 1, d -> d.three(SUM, 0, 1, 2));
        allowed(back, "different", 1, d -> d.different(3));
        allowed(back, "table", 1, d -> d.table(0, 1));
    }

    private static DomainDesk backAtLevel0() {
        DomainDesk desk = failedAtLevel(2);
        desk.back();
        desk.back();
        return desk;
    }

    // The promises.

    private static void newObject() {
        sentence("No variables, no constraints, an empty draft; level 0.");
        for (int what = 0; what <= 5; what++) {
            int each = what;
            allowed(EMPTY, "told(" + what + ")", 0, d -> d.told(each));
        }
        due("the draft of a new desk", draftOf(new DomainDesk()).startsWith("1 2 3 4 "), true);
        refused(EMPTY, "back()", STATE, d -> d.back());
        due("NONE", DomainDesk.NONE, -1);
    }

    private static void variable() {
        sentence("IllegalArgument: the domain is not 1 .. 255.");
        for (int domain : new int[] {1, 2, 128, 254, 255}) {
            allowed(ORDINARY, "variable(" + domain + ")", 3, d -> d.variable(domain));
            due("domains", domainsAfter(ORDINARY, d -> d.variable(domain)), "63 126 60 " + domain);
        }
        for (int domain : new int[] {0, 256, 257, 511, -1, -255, -256, LEAST, LEAST + 1, GREATEST}) {
            refused(ORDINARY, "variable(" + domain + ")", ARGUMENT, d -> d.variable(domain));
            refused(EMPTY, "variable(" + domain + ")", ARGUMENT, d -> d.variable(domain));
            refused(SIX_VARIABLES, "variable(" + domain + ")", ARGUMENT, d -> d.variable(domain));
        }
    }

    private static void two() {
        sentence("IllegalArgument: the kind is not 0 .. 2, the variables are the same, or c is not -7 .. 7.");
        for (int kind = 0; kind <= 2; kind++) {
            int each = kind;
            for (int c : new int[] {-7, -6, 0, 6, 7}) {
                allowed(ORDINARY, "two(" + kind + ", 1, 2, " + c + ")", 1, d -> d.two(each, 1, 2, c));
            }
            for (int c : new int[] {-8, 8, -9, 9, 16, -16, 256, LEAST, LEAST + 7, GREATEST, GREATEST - 7}) {
                refused(ORDINARY, "two(" + kind + ", 1, 2, " + c + ")", ARGUMENT, d -> d.two(each, 1, 2, c));
            }
            for (int x = 0; x < 3; x++) {
                int same = x;
                refused(ORDINARY, "two(" + kind + ", " + x + ", " + x + ", 0)", ARGUMENT, d -> d.two(each, same, same, 0));
            }
        }
        for (int kind : new int[] {-1, 3, 4, 256, LEAST, GREATEST}) {
            refused(ORDINARY, "two(" + kind + ", 0, 1, 0)", ARGUMENT, d -> d.two(kind, 0, 1, 0));
        }
        sentence("IndexOutOfBounds: there is no such variable");
        for (int x : new int[] {-1, 3, 6, 32, LEAST, GREATEST}) {
            refused(ORDINARY, "two(0, " + x + ", 1, 0)", INDEX, d -> d.two(UNEQUAL, x, 1, 0));
            refused(ORDINARY, "two(0, 1, " + x + ", 0)", INDEX, d -> d.two(UNEQUAL, 1, x, 0));
            refused(ORDINARY, "two(0, " + x + ", " + x + ", 0)", INDEX, d -> d.two(UNEQUAL, x, x, 0));
        }
        allowed(ORDINARY, "two(0, 0, 2, 0)", 1, d -> d.two(UNEQUAL, 0, 2, 0));
        allowed(ORDINARY, "two(0, 2, 0, 0)", 1, d -> d.two(UNEQUAL, 2, 0, 0));
        refused(ONE_VARIABLE, "two(0, 0, 1, 0)", INDEX, d -> d.two(UNEQUAL, 0, 1, 0));
        refused(ONE_VARIABLE, "two(0, 0, 0, 0)", ARGUMENT, d -> d.two(UNEQUAL, 0, 0, 0));
    }

    private static void three() {
        sentence("IllegalArgument: the kind is not 0 .. 2, or two of the variables are the same.");
        for (int kind = 0; kind <= 2; kind++) {
            int each = kind;
            allowed(ORDINARY, "three(" + kind + ", 0, 1, 2)", 1, d -> d.three(each, 0, 1, 2));
            allowed(ORDINARY, "three(" + kind + ", 2, 1, 0)", 1, d -> d.three(each, 2, 1, 0));
            refused(ORDINARY, "three(" + kind + ", 0, 0, 1)", ARGUMENT, d -> d.three(each, 0, 0, 1));
            refused(ORDINARY, "three(" + kind + ", 0, 1, 0)", ARGUMENT, d -> d.three(each, 0, 1, 0));
            refused(ORDINARY, "three(" + kind + ", 1, 0, 0)", ARGUMENT, d -> d.three(each, 1, 0, 0));
            refused(ORDINARY, "three(" + kind + ", 2, 2, 2)", ARGUMENT, d -> d.three(each, 2, 2, 2));
        }
        for (int kind : new int[] {-1, 3, 4, 256, LEAST, GREATEST}) {
            refused(ORDINARY, "three(" + kind + ", 0, 1, 2)", ARGUMENT, d -> d.three(kind, 0, 1, 2));
        }
        sentence("IndexOutOfBounds: there is no such variable");
        for (int x : new int[] {-1, 3, 6, 32, LEAST, GREATEST}) {
            refused(ORDINARY, "three(0, " + x + ", 1, 2)", INDEX, d -> d.three(SUM, x, 1, 2));
            refused(ORDINARY, "three(0, 1, " + x + ", 2)", INDEX, d -> d.three(SUM, 1, x, 2));
            refused(ORDINARY, "three(0, 1, 2, " + x + ")", INDEX, d -> d.three(SUM, 1, 2, x));
            refused(ORDINARY, "three(0, 1, 1, " + x + ")", INDEX, d -> d.three(SUM, 1, 1, x));
        }
    }

    private static void different() {
        sentence("IllegalArgument: there is a bit of no variable, or there are less than two.");
        for (int variables : new int[] {3, 5, 6, 7}) {
            allowed(ORDINARY, "different(" + variables + ")", 1, d -> d.different(variables));
        }
        for (int variables : new int[] {0, 1, 2, 4, 8, 9, 11, 12, 15, 64, 67, 259, -1, -2, -8, LEAST, LEAST + 3, GREATEST}) {
            refused(ORDINARY, "different(" + variables + ")", ARGUMENT, d -> d.different(variables));
        }
        allowed(SIX_VARIABLES, "different(33)", 0, d -> d.different(33));
        refused(SIX_VARIABLES, "different(32)", ARGUMENT, d -> d.different(32));
        refused(SIX_VARIABLES, "different(64)", ARGUMENT, d -> d.different(64));
        refused(SIX_VARIABLES, "different(65)", ARGUMENT, d -> d.different(65));
        refused(SIX_VARIABLES, "different(127)", ARGUMENT, d -> d.different(127));
        refused(ONE_VARIABLE, "different(1)", ARGUMENT, d -> d.different(1));
        refused(ONE_VARIABLE, "different(3)", ARGUMENT, d -> d.different(3));
        refused(EMPTY, "different(0)", ARGUMENT, d -> d.different(0));
        refused(EMPTY, "different(3)", ARGUMENT, d -> d.different(3));
    }

    private static void pair() {
        sentence("A pair of values comes to the DRAFT, or goes, if it was there: how many it has then.");
        DomainDesk desk = new DomainDesk();
        for (int n = 0; n < 64; n++) {
            due("pair " + n, desk.pair(n / 8, n % 8), n + 1);
        }
        due("told(5) of a full draft", desk.told(5), 64);
        for (int n = 63; n >= 0; n--) {
            due("pair " + n + " again", desk.pair(n / 8, n % 8), n);
        }
        due("told(5) of an empty draft", desk.told(5), 0);
        due("pair(5, 5) of an empty draft", desk.pair(5, 5), 1);
        due("pair(5, 4)", desk.pair(5, 4), 2);
        due("pair(4, 5)", desk.pair(4, 5), 3);
        due("pair(5, 5) again", desk.pair(5, 5), 2);

        sentence("IllegalArgument: they are not 0 .. 7.");
        for (int good : new int[] {0, 7}) {
            allowed(ORDINARY, "pair(" + good + ", 0)", 4, d -> d.pair(good, 0));
            allowed(ORDINARY, "pair(0, " + good + ")", 4, d -> d.pair(0, good));
            allowed(FULL_LEVEL_20, "pair(" + good + ", 1)", 3, d -> d.pair(good, 1));
        }
        for (int bad : new int[] {-1, 8, 9, 32, 33, 256, LEAST, GREATEST}) {
            refused(ORDINARY, "pair(" + bad + ", 0)", ARGUMENT, d -> d.pair(bad, 0));
            refused(ORDINARY, "pair(0, " + bad + ")", ARGUMENT, d -> d.pair(0, bad));
            refused(ORDINARY, "pair(" + bad + ", " + bad + ")", ARGUMENT, d -> d.pair(bad, bad));
        }
        refused(EMPTY, "pair(-1, 8)", ARGUMENT, d -> d.pair(-1, 8));
    }

    private static void table() {
        sentence("TABLE, of x and y and the draft's pairs; the draft is empty then: its number.");
        DomainDesk desk = ordinary();
        due("table(0, 2)", desk.table(0, 2), 1);
        due("told(5) then", desk.told(5), 0);
        due("domains", domainsOf(desk), "22 124 52");
        due("the draft then", draftOf(desk).startsWith("1 2 3 4 "), true);
        due("domains with a new draft", domainsOf(desk), "22 124 52");
        due("solutions() with a new draft", desk.solutions(), 5 + 4 + 2);
        DomainDesk empty = ordinary();
        empty.table(0, 2);
        due("table(0, 1) of an empty draft", empty.table(0, 1), 2);
        due("told(3) then", empty.told(3), 1);

        sentence("IllegalArgument: the variables are the same.");
        for (int x = 0; x < 3; x++) {
            int same = x;
            refused(ORDINARY, "table(" + x + ", " + x + ")", ARGUMENT, d -> d.table(same, same));
            allowed(ORDINARY, "table(" + x + ", another)", 1, d -> d.table(same, (same + 1) % 3));
        }
        sentence("IndexOutOfBounds: there is no such variable");
        for (int x : new int[] {-1, 3, 6, 32, LEAST, GREATEST}) {
            refused(ORDINARY, "table(" + x + ", 0)", INDEX, d -> d.table(x, 0));
            refused(ORDINARY, "table(0, " + x + ")", INDEX, d -> d.table(0, x));
            refused(ORDINARY, "table(" + x + ", " + x + ")", INDEX, d -> d.table(x, x));
        }
    }

    private static void guess() {
        sentence("A level is opened, where a variable has a value and no other one, or (not is) has it not: whether it has not FAILED.");
        State some = desk(20, 255);
        allowed(some, "guess(0, 2, true)", true, d -> d.guess(0, 2, true));
        due("domains", domainsAfter(some, d -> d.guess(0, 2, true)), "4 255");
        allowed(some, "guess(0, 2, false)", true, d -> d.guess(0, 2, false));
        due("domains", domainsAfter(some, d -> d.guess(0, 2, false)), "16 255");
        allowed(some, "guess(0, 3, true), a value that it has not", false, d -> d.guess(0, 3, true));
        due("domains", domainsAfter(some, d -> d.guess(0, 3, true)), "0 0");
        allowed(some, "guess(0, 3, false), a value that it has not", true, d -> d.guess(0, 3, false));
        due("domains", domainsAfter(some, d -> d.guess(0, 3, false)), "20 255");
        allowed(ONE_VARIABLE, "guess(0, 0, true), a value that it has not", false, d -> d.guess(0, 0, true));
        State one = desk(64, 255);
        allowed(one, "guess(0, 6, true), its only value", true, d -> d.guess(0, 6, true));
        allowed(one, "guess(0, 6, false), its only value", false, d -> d.guess(0, 6, false));
        for (State state : new State[] {some, one}) {
            for (boolean is : new boolean[] {false, true}) {
                DomainDesk desk = state.maker.get();
                desk.guess(0, 6, is);
                due("told(2) after guess(0, 6, " + is + ")", desk.told(2), 1);
                due("back() after guess(0, 6, " + is + ")", desk.back(), 0);
            }
        }

        sentence("IllegalArgument: the value is not 0 .. 7.");
        for (boolean is : new boolean[] {false, true}) {
            allowed(ORDINARY, "guess(0, 0, " + is + ")", true, d -> d.guess(0, 0, is));
            allowed(ORDINARY, "guess(0, 7, " + is + ")", !is, d -> d.guess(0, 7, is));
            for (int value : new int[] {-1, 8, 9, 31, 32, 33, 256, LEAST, GREATEST}) {
                refused(ORDINARY, "guess(0, " + value + ", " + is + ")", ARGUMENT, d -> d.guess(0, value, is));
            }
        }
        sentence("IndexOutOfBounds: there is no such variable");
        allowed(ORDINARY, "guess(2, 5, true)", true, d -> d.guess(2, 5, true));
        for (int x : new int[] {-1, 3, 6, 32, LEAST, GREATEST}) {
            refused(ORDINARY, "guess(" + x + ", 0, true)", INDEX, d -> d.guess(x, 0, true));
            refused(ORDINARY, "guess(" + x + ", 8, false)", INDEX, d -> d.guess(x, 8, false));
        }
        guessTooDeep();
    }

    private static void guessTooDeep() {
        sentence("IllegalState: it had FAILED before.");
        for (State state : new State[] {FAILED, FULL_FAILED, FAILED_LEVEL_1, FAILED_LEVEL_20}) {
            refused(state, "guess(0, 0, true)", STATE, d -> d.guess(0, 0, true));
            refused(state, "guess(2, 3, false)", STATE, d -> d.guess(2, 3, false));
        }
        allowed(NO_SOLUTION, "guess(0, 2, false), as it has not FAILED", true, d -> d.guess(0, 2, false));
        State back = new State("back from FAILED", 4, 1, 0, false, EdgesTest::backAtLevel0);
        allowed(back, "guess(0, 0, true)", true, d -> d.guess(0, 0, true));

        sentence("UnsupportedOperation: the level is 20.");
        allowed(LEVEL_19, "guess(2, 6, true)", true, d -> d.guess(2, 6, true));
        allowed(LEVEL_19, "guess(3, 0, true), FAILED at level 20", false, d -> d.guess(3, 0, true));
        allowed(LEVEL_20, "told(2)", 20, d -> d.told(2));
        for (State state : new State[] {LEVEL_20, FULL_LEVEL_20}) {
            refused(state, "guess(2, 6, true)", UNSUPPORTED, d -> d.guess(2, 6, true));
            refused(state, "guess(2, 6, false)", UNSUPPORTED, d -> d.guess(2, 6, false));
            refused(state, "guess(0, 0, true), a value that it has not", UNSUPPORTED, d -> d.guess(0, 0, true));
        }
        DomainDesk desk = LEVEL_20.maker.get();
        due("back() from level 20", desk.back(), 19);
        due("guess again to level 20", desk.guess(3, 7, true), true);
        due("told(2) then", desk.told(2), 20);
        due("domains then", domainsOf(desk), "128 128 " + (255 - 31) + " 128");
    }

    private static void back() {
        sentence("The level is closed: the one before. IllegalState: it is 0.");
        allowed(LEVEL_1, "back()", 0, d -> d.back());
        allowed(LEVEL_20, "back()", 19, d -> d.back());
        allowed(FAILED_LEVEL_1, "back()", 0, d -> d.back());
        allowed(FAILED_LEVEL_20, "back()", 19, d -> d.back());
        for (State state : new State[] {EMPTY, ORDINARY, FULL, FAILED, FULL_FAILED, NO_SOLUTION}) {
            refused(state, "back()", STATE, d -> d.back());
        }
        DomainDesk desk = LEVEL_20.maker.get();
        for (int level = 19; level >= 0; level--) {
            due("back()", desk.back(), level);
            due("told(2)", desk.told(2), level);
            due("domains", domainsOf(desk), domainsOf(atLevel(level)));
        }
        due("back() at level 0", answerOf(desk, d -> d.back()), STATE);
        due("told(2) at level 0", desk.told(2), 0);
    }

    private static void domain() {
        sentence("The domain of a variable; 0 when it has FAILED.");
        allowed(ORDINARY, "domain(0)", 63, d -> d.domain(0));
        allowed(ORDINARY, "domain(2)", 60, d -> d.domain(2));
        for (State state : new State[] {FAILED, FULL_FAILED, FAILED_LEVEL_1, FAILED_LEVEL_20}) {
            for (int x = 0; x < state.variables; x++) {
                int each = x;
                allowed(state, "domain(" + x + ")", 0, d -> d.domain(each));
            }
        }
        sentence("IndexOutOfBounds: there is no such variable");
        for (int x : new int[] {-1, 3, 6, 32, LEAST, GREATEST}) {
            refused(ORDINARY, "domain(" + x + ")", INDEX, d -> d.domain(x));
            refused(FAILED, "domain(" + x + ")", INDEX, d -> d.domain(x));
        }
        refused(SIX_VARIABLES, "domain(6)", INDEX, d -> d.domain(6));
    }

    private static void isImplied() {
        sentence("Whether a constraint holds whatever values of their domains its variables have (also when it has FAILED).");
        due("ORDERED, 3 at most 3", implied(desk(15, 248), d -> d.two(ORDERED, 0, 1, 0)), true);
        due("ORDERED, 3 less than 3", implied(desk(15, 248), d -> d.two(ORDERED, 0, 1, 1)), false);
        due("UNEQUAL, no value of both", implied(desk(15, 240), d -> d.two(UNEQUAL, 0, 1, 0)), true);
        due("UNEQUAL, one value of both", implied(desk(15, 248), d -> d.two(UNEQUAL, 0, 1, 0)), false);
        due("FAR, 3 and 5", implied(desk(15, 224), d -> d.two(FAR, 0, 1, 2)), true);
        due("FAR, 3 and 4", implied(desk(15, 240), d -> d.two(FAR, 0, 1, 2)), false);
        due("FAR, 0 and 0 alone", implied(desk(3, 9), d -> d.two(FAR, 0, 1, 1)), false);
        due("FAR on both sides", implied(desk(129, 24), d -> d.two(FAR, 0, 1, 3)), true);
        due("SUM of single values", implied(desk(4, 8, 255), d -> d.three(SUM, 0, 1, 2)), true);
        due("SUM of 0 and two values", implied(desk(1, 6, 255), d -> d.three(SUM, 0, 1, 2)), false);
        due("SUM of two values and 0", implied(desk(6, 1, 255), d -> d.three(SUM, 0, 1, 2)), false);
        due("SUM of two values", implied(desk(4, 24, 255), d -> d.three(SUM, 0, 1, 2)), false);
        due("PRODUCT with 0", implied(desk(255, 1, 255), d -> d.three(PRODUCT, 0, 1, 2)), true);
        due("PRODUCT with 0 and 1", implied(desk(255, 3, 255), d -> d.three(PRODUCT, 0, 1, 2)), false);
        due("MAXIMUM of 3 and less", implied(desk(15, 8, 255), d -> d.three(MAXIMUM, 0, 1, 2)), true);
        due("MAXIMUM of 3 and more", implied(desk(31, 8, 255), d -> d.three(MAXIMUM, 0, 1, 2)), false);
        due("DIFFERENT, no value of two", implied(desk(3, 12, 48), d -> d.different(7)), true);
        due("DIFFERENT, one value of the first two", implied(desk(3, 6, 48), d -> d.different(7)), false);
        due("DIFFERENT, one value of two", implied(desk(3, 12, 40), d -> d.different(7)), false);
        for (State state : new State[] {FAILED, FULL_FAILED, FAILED_LEVEL_1, FAILED_LEVEL_20}) {
            for (int n = 0; n < state.constraints; n++) {
                int each = n;
                allowed(state, "isImplied(" + n + ")", true, d -> d.isImplied(each));
            }
        }
        DomainDesk failing = with(255, 255, 255);
        failing.two(UNEQUAL, 0, 1, 0);
        due("isImplied(0) before", failing.isImplied(0), false);
        failing.table(1, 2);
        due("isImplied(0) when it has FAILED", failing.isImplied(0), true);
        due("isImplied(1), a TABLE of no pairs", failing.isImplied(1), true);

        sentence("IndexOutOfBounds: there is no such constraint.");
        for (int n : new int[] {-1, 1, 3, 12, LEAST, GREATEST}) {
            refused(ORDINARY, "isImplied(" + n + ")", INDEX, d -> d.isImplied(n));
        }
        refused(TWELVE, "isImplied(12)", INDEX, d -> d.isImplied(12));
        refused(ELEVEN, "isImplied(11)", INDEX, d -> d.isImplied(11));
        refused(SIX_VARIABLES, "isImplied(0)", INDEX, d -> d.isImplied(0));
        refused(FAILED, "isImplied(1)", INDEX, d -> d.isImplied(1));
    }

    private static boolean implied(State state, Call call) {
        DomainDesk desk = state.maker.get();
        call.apply(desk);
        return desk.isImplied(0);
    }

    private static void solutions() {
        sentence("How many solutions there are, 100 at most.");
        allowed(desk(1), "solutions()", 1, d -> d.solutions());
        allowed(NO_SOLUTION, "solutions()", 0, d -> d.solutions());
        allowed(FAILED, "solutions()", 0, d -> d.solutions());
        allowed(FAILED_LEVEL_20, "solutions()", 0, d -> d.solutions());
        allowed(desk(127, 127, 3), "solutions()", 98, d -> d.solutions());
        allowed(desk(31, 31, 15), "solutions()", 100, d -> d.solutions());
        allowed(desk(63, 15, 31), "solutions()", 100, d -> d.solutions());
        allowed(MANY_SOLUTIONS, "solutions()", 100, d -> d.solutions());
        DomainDesk desk = MANY_SOLUTIONS.maker.get();
        desk.solutions();
        desk.different(63);
        due("solutions() when DIFFERENT", desk.solutions(), 100);
        for (int x = 0; x < 6; x++) {
            due("value(99, " + x + ") when DIFFERENT", desk.value(99, x), "013642".charAt(x));
        }
    }

    private static void value() {
        sentence("The value of a variable in solution i. IndexOutOfBounds: there is none such.");
        State six = desk(3, 7);
        due("solutions", solutionsOf(six.maker.get()), "00 01 02 10 11 12");
        allowed(six, "value(0, 0)", 0, d -> d.value(0, 0));
        allowed(six, "value(5, 0)", 1, d -> d.value(5, 0));
        allowed(six, "value(5, 1)", 2, d -> d.value(5, 1));
        // The greater ones come to 0 or 6 when they are multiplied by six and wrap around.
        for (int i : new int[] {-1, 6, 7, 99, 100, LEAST, GREATEST, 715827883, 1431655766, -715827882, 1 << 30}) {
            refused(six, "value(" + i + ", 0)", INDEX, d -> d.value(i, 0));
            refused(MANY_SOLUTIONS, "value(" + (i | 128) + ", 0)", INDEX, d -> d.value(i | 128, 0));
            refused(FAILED, "value(" + i + ", 0)", INDEX, d -> d.value(i, 0));
        }
        for (int x : new int[] {-1, 2, 6, LEAST, GREATEST}) {
            refused(six, "value(0, " + x + ")", INDEX, d -> d.value(0, x));
            refused(six, "value(6, " + x + ")", INDEX, d -> d.value(6, x));
        }
        allowed(MANY_SOLUTIONS, "value(99, 5)", 3, d -> d.value(99, 5));
        refused(MANY_SOLUTIONS, "value(100, 5)", INDEX, d -> d.value(100, 5));
        refused(MANY_SOLUTIONS, "value(0, 6)", INDEX, d -> d.value(0, 6));
        refused(MANY_SOLUTIONS, "value(-1, 5)", INDEX, d -> d.value(-1, 5));
        refused(FAILED, "value(0, 0)", INDEX, d -> d.value(0, 0));
        refused(NO_SOLUTION, "value(0, 0)", INDEX, d -> d.value(0, 0));
    }

    private static void extreme() {
        sentence("The least, or (on most) the greatest value that a variable has in any solution, of all that there are; NONE without any.");
        allowed(MANY_SOLUTIONS, "extreme(0, true), beyond the first 100", 7, d -> d.extreme(0, true));
        allowed(MANY_SOLUTIONS, "extreme(0, false)", 0, d -> d.extreme(0, false));
        allowed(MANY_SOLUTIONS, "extreme(5, true)", 7, d -> d.extreme(5, true));
        allowed(WITH_101, "extreme(0, true), of the last one alone", 7, d -> d.extreme(0, true));
        allowed(WITH_101, "extreme(1, true)", 7, d -> d.extreme(1, true));
        allowed(WITH_100, "extreme(0, true)", 3, d -> d.extreme(0, true));
        allowed(desk(128), "extreme(0, false)", 7, d -> d.extreme(0, false));
        allowed(desk(1), "extreme(0, true)", 0, d -> d.extreme(0, true));
        for (boolean most : new boolean[] {false, true}) {
            for (State state : new State[] {NO_SOLUTION, FAILED, FULL_FAILED, FAILED_LEVEL_1, FAILED_LEVEL_20}) {
                for (int x = 0; x < state.variables; x++) {
                    int each = x;
                    allowed(state, "extreme(" + x + ", " + most + ")", DomainDesk.NONE, d -> d.extreme(each, most));
                }
            }
        }
        extremeBesideZero();
        DomainDesk inner = with(199, 3, 3);
        inner.two(UNEQUAL, 0, 1, 0);
        inner.two(UNEQUAL, 1, 2, 0);
        inner.two(UNEQUAL, 0, 2, 0);
        due("domain(0)", inner.domain(0), 199);
        due("extreme(0, false), not the domain's least", inner.extreme(0, false), 2);
        due("extreme(0, true)", inner.extreme(0, true), 7);

        sentence("IndexOutOfBounds: there is no such variable");
        for (boolean most : new boolean[] {false, true}) {
            allowed(ORDINARY, "extreme(2, " + most + ")", most ? 5 : 2, d -> d.extreme(2, most));
            for (int x : new int[] {-1, 3, 6, 32, LEAST, GREATEST}) {
                refused(ORDINARY, "extreme(" + x + ", " + most + ")", INDEX, d -> d.extreme(x, most));
                refused(FAILED, "extreme(" + x + ", " + most + ")", INDEX, d -> d.extreme(x, most));
            }
        }
    }

    /** Whichever variable is asked for, the others have values beside it, 0 among them. */
    private static void extremeBesideZero() {
        DomainDesk table = with(255, 255);
        table.pair(0, 7);
        table.pair(5, 0);
        table.table(0, 1);
        due("extreme(0, true) of a TABLE", table.extreme(0, true), 5);
        due("extreme(0, false) of a TABLE", table.extreme(0, false), 0);
        due("extreme(1, true) of a TABLE", table.extreme(1, true), 7);
        due("extreme(1, false) of a TABLE", table.extreme(1, false), 0);
        for (int zero = 0; zero < 2; zero++) {
            DomainDesk sum = with(zero == 0 ? 1 : 48, zero == 1 ? 1 : 48, 255);
            sum.three(SUM, 0, 1, 2);
            due("extreme(2, true) of a SUM with 0", sum.extreme(2, true), 5);
            due("extreme(2, false) of a SUM with 0", sum.extreme(2, false), 4);
            due("extreme(0, true) of a SUM with 0", sum.extreme(0, true), zero == 0 ? 0 : 5);
            due("extreme(1, true) of a SUM with 0", sum.extreme(1, true), zero == 1 ? 0 : 5);
        }
    }

    private static void told() {
        sentence("NONE for another what");
        for (State state : STATES) {
            for (int what : new int[] {-1, 6, 7, 8, 256, LEAST, GREATEST}) {
                allowed(state, "told(" + what + ")", DomainDesk.NONE, d -> d.told(what));
            }
        }
        sentence("How many variables there are (what = 0), constraints (1), the level (2), whether it has FAILED, 1 or 0 (3)");
        for (State state : STATES) {
            allowed(state, "told(0)", state.variables, d -> d.told(0));
            allowed(state, "told(1)", state.constraints, d -> d.told(1));
            allowed(state, "told(2)", state.level, d -> d.told(2));
            allowed(state, "told(3)", state.hasFailed ? 1 : 0, d -> d.told(3));
        }
        sentence("values in all domains (4), pairs in the draft (5)");
        allowed(EMPTY, "told(4)", 0, d -> d.told(4));
        allowed(ORDINARY, "told(4)", 6 + 6 + 4, d -> d.told(4));
        allowed(MANY_SOLUTIONS, "told(4)", 48, d -> d.told(4));
        allowed(LEVEL_20, "told(4)", 1 + 1 + 2 + 7, d -> d.told(4));
        allowed(FAILED_LEVEL_20, "told(4)", 0, d -> d.told(4));
        allowed(ORDINARY, "told(5)", 3, d -> d.told(5));
        allowed(FULL_LEVEL_20, "told(5)", 2, d -> d.told(5));
        allowed(FAILED, "told(5)", 1, d -> d.told(5));
    }

    // Every call with edges of all its arguments on every desk.

    private static void firstOfSeveral() {
        sentence("of several that a call names, the first one. A call that throws changes nothing.");
        for (State state : STATES) {
            int[] variables = edges(0, state.variables - 1);
            for (int domain : edges(1, 255)) {
                tried(state, "variable(" + domain + ")", dueOfVariable(state, domain), state.variables, d -> d.variable(domain));
            }
            for (int a : edges(0, 7)) {
                for (int b : edges(0, 7)) {
                    boolean good = isWithin(a, 0, 7) && isWithin(b, 0, 7);
                    tried(state, "pair(" + a + ", " + b + ")", good ? NO_EXCEPTION : ARGUMENT, null, d -> d.pair(a, b));
                }
            }
            for (int some : new int[] {0, 1, 3, (1 << state.variables) - 1, 1 << state.variables, (2 << state.variables) - 1, -1}) {
                tried(state, "different(" + some + ")", dueOfDifferent(state, some), state.constraints, d -> d.different(some));
            }
            tried(state, "back()", state.level > 0 ? NO_EXCEPTION : STATE, state.level - 1, d -> d.back());
            for (int n : edges(0, state.constraints - 1)) {
                boolean good = isWithin(n, 0, state.constraints - 1);
                tried(state, "isImplied(" + n + ")", good ? NO_EXCEPTION : INDEX, null, d -> d.isImplied(n));
            }
            for (int x : variables) {
                tried(state, "domain(" + x + ")", state.has(x) ? NO_EXCEPTION : INDEX, null, d -> d.domain(x));
                tried(state, "extreme(" + x + ", true)", state.has(x) ? NO_EXCEPTION : INDEX, null, d -> d.extreme(x, true));
                for (int value : edges(0, 7)) {
                    tried(state, "guess(" + x + ", " + value + ", false)", dueOfGuess(state, x, value), null, d -> d.guess(x, value, false));
                }
                for (int y : variables) {
                    tried(state, "table(" + x + ", " + y + ")", dueOfConstraint(state, x != y, x, y), state.constraints, d -> d.table(x, y));
                    triedOfTwoAndThree(state, x, y);
                }
            }
        }
    }

    private static void triedOfTwoAndThree(State state, int x, int y) {
        for (int kind : edges(0, 2)) {
            boolean isKind = isWithin(kind, 0, 2);
            for (int c : edges(-7, 7)) {
                boolean good = isKind && x != y && isWithin(c, -7, 7);
                tried(state, "two(" + kind + ", " + x + ", " + y + ", " + c + ")",
                        dueOfConstraint(state, good, x, y), state.constraints, d -> d.two(kind, x, y, c));
            }
            for (int z : new int[] {-1, 0, 1, state.variables - 1, state.variables}) {
                boolean good = isKind && x != y && x != z && y != z;
                tried(state, "three(" + kind + ", " + x + ", " + y + ", " + z + ")",
                        dueOfConstraint(state, good, x, y, z), state.constraints, d -> d.three(kind, x, y, z));
            }
        }
    }

    /** Both sides of both ends. */
    private static int[] edges(int least, int greatest) {
        return new int[] {least - 1, least, greatest, greatest + 1};
    }

    private static boolean isWithin(int number, int least, int greatest) {
        return number >= least && number <= greatest;
    }

    private static String dueOfVariable(State state, int domain) {
        return !isWithin(domain, 1, 255) ? ARGUMENT : dueOfComing(state, state.variables < 6);
    }

    private static String dueOfConstraint(State state, boolean isGood, int... variables) {
        return !state.has(variables) ? INDEX : !isGood ? ARGUMENT : dueOfComing(state, state.constraints < 12);
    }

    private static String dueOfDifferent(State state, int some) {
        boolean isGood = isWithin(some, 0, (1 << state.variables) - 1) && Integer.bitCount(some) >= 2;
        return dueOfConstraint(state, isGood);
    }

    private static String dueOfComing(State state, boolean hasRoom) {
        return state.level != 0 ? STATE : !hasRoom ? UNSUPPORTED : NO_EXCEPTION;
    }

    private static String dueOfGuess(State state, int x, int value) {
        if (!state.has(x)) {
            return INDEX;
        }
        if (!isWithin(value, 0, 7)) {
            return ARGUMENT;
        }
        return state.hasFailed ? STATE : state.level == 20 ? UNSUPPORTED : NO_EXCEPTION;
    }

    /** Without an answer that is due, any answer is right that is no exception. */
    private static void tried(State state, String what, String exception, Object answer, Call call) {
        if (!exception.equals(NO_EXCEPTION)) {
            refused(state, what, exception, call);
        } else if (answer != null) {
            allowed(state, what, answer, call);
        } else {
            String got = answerOf(state.maker.get(), call);
            due(what + " on " + state.name, got.contains("Exception") ? got : NO_EXCEPTION, NO_EXCEPTION);
        }
    }

    public static void main(String[] args) {
        calls();
        variables();
        constraints();
        constraintsOfTwo();
        constraintsOfThree();
        differentAndTable();
        pruning();
        failing();
        solutionsInOrder();
        exceptions();
        newObject();
        variable();
        two();
        three();
        different();
        pair();
        table();
        guess();
        back();
        domain();
        isImplied();
        solutions();
        value();
        extreme();
        told();
        firstOfSeveral();
        System.out.println(wrong == 0 ? "all answers are as due" : wrong + " answers are not as due");
        if (wrong != 0) {
            System.exit(1);
        }
    }
}
