import java.util.ArrayList;
import java.util.Arrays;
import java.util.List;
import java.util.Random;

/**
 * Long runs of calls, each answer compared with those of a reference that is written from the
 * document's definitions alone: every assignment is gone through, nothing is kept or shortened.
 */
public final class ReferenceTest {
    private static final int RUNS = 4000;
    private static final int STEPS = 60;
    /** What a desk answers after so many calls is free. */
    private static final int MOST_CALLS = 512;
    private static final int MOST_PRINTED = 20;

    private static int wrong = 0;

    interface Rule {
        boolean holds(int[] values);
    }

    /** A constraint: its variables, and the rule over their values in the same order. */
    static final class Limit {
        final int[] variables;
        final Rule rule;

        Limit(int[] variables, Rule rule) {
            this.variables = variables;
            this.rule = rule;
        }
    }

    static final class Reference {
        final List<Integer> toldDomains = new ArrayList<>();
        final List<Limit> limits = new ArrayList<>();
        final List<int[]> levels = new ArrayList<>();
        final boolean[][] draft = new boolean[8][8];
        List<int[]> found = null;

        Reference() {
            levels.add(new int[0]);
        }

        int[] now() {
            return levels.get(levels.size() - 1);
        }

        int level() {
            return levels.size() - 1;
        }

        int count() {
            return toldDomains.size();
        }

        boolean failed() {
            return Arrays.stream(now()).anyMatch(d -> d == 0);
        }

        void variableKnown(int... xs) {
            for (int x : xs) {
                if (x < 0 || x >= count()) {
                    throw new IndexOutOfBoundsException();
                }
            }
        }

        void argument(boolean good) {
            if (!good) {
                throw new IllegalArgumentException();
            }
        }

        void state(boolean good) {
            if (!good) {
                throw new IllegalStateException();
            }
        }

        void room(boolean there) {
            if (!there) {
                throw new UnsupportedOperationException();
            }
        }

        int variable(int domain) {
            argument(domain >= 1 && domain <= 255);
            state(level() == 0);
            room(count() < 6);
            toldDomains.add(domain);
            pruneGround();
            return count() - 1;
        }

        int add(Rule rule, int... variables) {
            state(level() == 0);
            room(limits.size() < 12);
            limits.add(new Limit(variables, rule));
            pruneGround();
            return limits.size() - 1;
        }

        int two(int kind, int x, int y, int c) {
            variableKnown(x, y);
            argument(kind >= 0 && kind <= 2 && x != y && c >= -7 && c <= 7);
            if (kind == 0) {
                return add(v -> v[0] + c != v[1], x, y);
            }
            if (kind == 1) {
                return add(v -> v[0] + c <= v[1], x, y);
            }
            return add(v -> v[0] - v[1] >= c || v[1] - v[0] >= c, x, y);
        }

        int three(int kind, int x, int y, int z) {
            variableKnown(x, y, z);
            argument(kind >= 0 && kind <= 2 && x != y && x != z && y != z);
            if (kind == 0) {
                return add(v -> v[0] + v[1] == v[2], x, y, z);
            }
            if (kind == 1) {
                return add(v -> v[0] * v[1] == v[2], x, y, z);
            }
            return add(v -> (v[0] > v[1] ? v[0] : v[1]) == v[2], x, y, z);
        }

        int different(int variables) {
            List<Integer> xs = new ArrayList<>();
            for (int x = 0; x < 32; x++) {
                if ((variables >>> x & 1) == 1) {
                    argument(x < count());
                    xs.add(x);
                }
            }
            argument(xs.size() >= 2);
            return add(v -> Arrays.stream(v).distinct().count() == v.length,
                    xs.stream().mapToInt(Integer::intValue).toArray());
        }

        int pair(int a, int b) {
            argument(a >= 0 && a <= 7 && b >= 0 && b <= 7);
            draft[a][b] = !draft[a][b];
            return drafted();
        }

        int drafted() {
            int n = 0;
            for (boolean[] row : draft) {
                for (boolean is : row) {
                    n += is ? 1 : 0;
                }
            }
            return n;
        }

        int table(int x, int y) {
            variableKnown(x, y);
            argument(x != y);
            boolean[][] pairs = new boolean[8][];
            for (int a = 0; a < 8; a++) {
                pairs[a] = draft[a].clone();
            }
            int number = add(v -> pairs[v[0]][v[1]], x, y);
            for (boolean[] row : draft) {
                Arrays.fill(row, false);
            }
            return number;
        }

        boolean guess(int x, int value, boolean is) {
            variableKnown(x);
            argument(value >= 0 && value <= 7);
            state(!failed());
            room(level() < 20);
            int[] row = now().clone();
            row[x] = is ? row[x] & 1 << value : row[x] & ~(1 << value);
            levels.add(row);
            prune(row);
            found = null;
            return !failed();
        }

        int back() {
            state(level() > 0);
            levels.remove(level());
            found = null;
            return level();
        }

        void pruneGround() {
            int[] row = toldDomains.stream().mapToInt(Integer::intValue).toArray();
            levels.set(0, row);
            prune(row);
            found = null;
        }

        void prune(int[] row) {
            boolean again = true;
            while (again) {
                again = false;
                for (Limit limit : limits) {
                    for (int i = 0; i < limit.variables.length; i++) {
                        int x = limit.variables[i];
                        for (int v = 0; v < 8; v++) {
                            if ((row[x] >> v & 1) == 1 && !supports(limit, i, v, row)) {
                                row[x] &= ~(1 << v);
                                again = true;
                            }
                        }
                    }
                }
            }
            if (Arrays.stream(row).anyMatch(d -> d == 0)) {
                Arrays.fill(row, 0);
            }
        }

        boolean supports(Limit limit, int i, int v, int[] row) {
            int[] domains = Arrays.stream(limit.variables).map(x -> row[x]).toArray();
            domains[i] = 1 << v;
            return some(limit.rule, domains, new int[domains.length], 0);
        }

        /** Whether values of the domains are such that the rule holds. */
        static boolean some(Rule rule, int[] domains, int[] values, int at) {
            if (at == domains.length) {
                return rule.holds(values);
            }
            for (int v = 0; v < 8; v++) {
                if ((domains[at] >> v & 1) == 1) {
                    values[at] = v;
                    if (some(rule, domains, values, at + 1)) {
                        return true;
                    }
                }
            }
            return false;
        }

        boolean isImplied(int n) {
            if (n < 0 || n >= limits.size()) {
                throw new IndexOutOfBoundsException();
            }
            Limit limit = limits.get(n);
            int[] domains = Arrays.stream(limit.variables).map(x -> now()[x]).toArray();
            return !some(v -> !limit.rule.holds(v), domains, new int[domains.length], 0);
        }

        List<int[]> allSolutions() {
            if (found == null) {
                found = new ArrayList<>();
                some(this::keepIfSolution, now(), new int[count()], 0);
            }
            return found;
        }

        /** Answers false always, so that all assignments are gone through. */
        boolean keepIfSolution(int[] values) {
            for (Limit limit : limits) {
                int[] own = new int[limit.variables.length];
                for (int i = 0; i < own.length; i++) {
                    own[i] = values[limit.variables[i]];
                }
                if (!limit.rule.holds(own)) {
                    return false;
                }
            }
            found.add(values.clone());
            return false;
        }

        int solutions() {
            return Math.min(100, allSolutions().size());
        }

        int value(int i, int x) {
            variableKnown(x);
            if (i < 0 || i >= solutions()) {
                throw new IndexOutOfBoundsException();
            }
            return allSolutions().get(i)[x];
        }

        int extreme(int x, boolean most) {
            variableKnown(x);
            int best = -1;
            for (int[] values : allSolutions()) {
                best = best == -1 ? values[x] : most ? Math.max(best, values[x]) : Math.min(best, values[x]);
            }
            return best;
        }

        int domain(int x) {
            variableKnown(x);
            return now()[x];
        }

        int told(int what) {
            switch (what) {
                case 0: return count();
                case 1: return limits.size();
                case 2: return level();
                case 3: return failed() ? 1 : 0;
                case 4: return Arrays.stream(now()).map(Integer::bitCount).sum();
                case 5: return drafted();
                default: return -1;
            }
        }
    }

    interface Call {
        int answer();
    }

    private static String answerOf(Call call) {
        try {
            return Integer.toString(call.answer());
        } catch (RuntimeException e) {
            return e.getClass().getName();
        }
    }

    private static void compare(List<String> run, String name, Call got, Call want) {
        if (run.size() == MOST_CALLS) {
            return;
        }
        String g = answerOf(got);
        String w = answerOf(want);
        run.add(name + " = " + w);
        if (!g.equals(w)) {
            wrong++;
            if (wrong <= MOST_PRINTED) {
                System.out.println(name + " answered " + g + ", due is " + w + " after " + run);
            }
        }
    }

    private static int number(boolean is) {
        return is ? 1 : 0;
    }

    private final Random random;
    private final DomainDesk desk = new DomainDesk();
    private final Reference reference = new Reference();
    private final List<String> run = new ArrayList<>();
    private final boolean wide;

    private ReferenceTest(long seed) {
        random = new Random(seed);
        wide = seed % 2 == 0;
    }

    private int some(int bound) {
        return random.nextInt(bound);
    }

    /** Mostly one of the first ones, now and then one that isn't there. */
    private int index(int count) {
        return some(25) == 0 ? some(3) * count - 1 + some(2) : count == 0 ? 0 : some(count);
    }

    /** Mostly none of the two, as a constraint's variables must not be the same. */
    private int indexBeside(int a, int b) {
        int x = index(reference.count());
        for (int n = 0; n < 5 && (x == a || x == b); n++) {
            x = index(reference.count());
        }
        return x;
    }

    private int someDomain() {
        if (some(30) == 0) {
            return some(3) * 128 * (some(2) * 2 - 1);
        }
        return wide ? 255 & ~(1 << some(12)) : 1 + some(255);
    }

    private void addVariable() {
        int domain = someDomain();
        compare(run, "variable(" + domain + ")", () -> desk.variable(domain), () -> reference.variable(domain));
    }

    private void addConstraint() {
        int x = index(reference.count());
        int y = indexBeside(x, x);
        int z = indexBeside(x, y);
        int kind = index(3);
        switch (some(4)) {
            case 0: {
                int c = some(20) == 0 ? some(19) - 9 : kind == 0 ? some(9) - 4 : some(6) - 3;
                compare(run, "two(" + kind + ", " + x + ", " + y + ", " + c + ")",
                        () -> desk.two(kind, x, y, c), () -> reference.two(kind, x, y, c));
                break;
            }
            case 1:
                compare(run, "three(" + kind + ", " + x + ", " + y + ", " + z + ")",
                        () -> desk.three(kind, x, y, z), () -> reference.three(kind, x, y, z));
                break;
            case 2: {
                int variables = some(1 << reference.count()) | (some(20) == 0 ? 1 << some(32) : 0);
                compare(run, "different(" + variables + ")",
                        () -> desk.different(variables), () -> reference.different(variables));
                break;
            }
            default:
                addPairs();
                compare(run, "table(" + x + ", " + y + ")", () -> desk.table(x, y), () -> reference.table(x, y));
                break;
        }
    }

    /** Few pairs would mostly leave no solution. */
    private void addPairs() {
        int least = some(8) == 0 ? 1 : 25;
        for (int n = 0; n < 90 && reference.drafted() < least; n++) {
            int a = index(8);
            int b = index(8);
            compare(run, "pair(" + a + ", " + b + ")", () -> desk.pair(a, b), () -> reference.pair(a, b));
        }
    }

    private void search() {
        if (some(3) == 0) {
            compare(run, "back()", () -> desk.back(), () -> reference.back());
            return;
        }
        int x = index(reference.count());
        int v = index(8);
        boolean is = some(5) == 0;
        compare(run, "guess(" + x + ", " + v + ", " + is + ")",
                () -> number(desk.guess(x, v, is)), () -> number(reference.guess(x, v, is)));
    }

    /** Everything now and then, and else the domains alone, so that the calls last for many steps. */
    private void ask() {
        for (int x = 0; x < reference.count(); x++) {
            int w = x;
            compare(run, "domain(" + w + ")", () -> desk.domain(w), () -> reference.domain(w));
        }
        if (some(6) == 0) {
            askMore();
        }
    }

    private void askMore() {
        int count = reference.count();
        compare(run, "domain(-1)", () -> desk.domain(-1), () -> reference.domain(-1));
        compare(run, "domain(" + count + ")", () -> desk.domain(count), () -> reference.domain(count));
        for (int what = -1; what <= 6; what++) {
            int w = what;
            compare(run, "told(" + w + ")", () -> desk.told(w), () -> reference.told(w));
        }
        for (int n = -1; n <= reference.limits.size(); n++) {
            int w = n;
            compare(run, "isImplied(" + w + ")", () -> number(desk.isImplied(w)), () -> number(reference.isImplied(w)));
        }
    }

    private void askSolutions() {
        for (int x = -1; x <= reference.count(); x++) {
            int w = x;
            boolean most = some(2) == 0;
            compare(run, "extreme(" + w + ", " + most + ")", () -> desk.extreme(w, most), () -> reference.extreme(w, most));
        }
        if (some(2) == 0) {
            compare(run, "solutions()", () -> desk.solutions(), () -> reference.solutions());
        }
        for (int n = 0; n < 10; n++) {
            int i = index(reference.solutions());
            int x = index(reference.count());
            compare(run, "value(" + i + ", " + x + ")", () -> desk.value(i, x), () -> reference.value(i, x));
        }
    }

    private void build() {
        int variables = 1 + some(6);
        for (int n = 0; n < variables; n++) {
            addVariable();
        }
        int constraints = some(14);
        for (int n = 0; n < constraints && !reference.failed(); n++) {
            addConstraint();
            ask();
        }
        askSolutions();
    }

    private void go() {
        askSolutions();
        build();
        for (int n = 0; n < STEPS; n++) {
            int choice = some(20);
            if (choice == 0) {
                addVariable();
            } else if (choice == 1) {
                addConstraint();
            } else {
                search();
            }
            ask();
            if (some(8) == 0) {
                askSolutions();
            }
        }
    }

    public static void main(String[] args) {
        for (int seed = 0; seed < RUNS; seed++) {
            new ReferenceTest(seed).go();
        }
        System.out.println(wrong == 0 ? "all answers are as due" : wrong + " answers are not as due");
        if (wrong != 0) {
            System.exit(1);
        }
    }
}
