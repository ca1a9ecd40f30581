import java.util.ArrayList;
import java.util.Arrays;

/** Finds values for a few variables under constraints; README.md says how it is used. */
public final class DomainDesk {
    public static final int NONE = -1;

    private static final int MOST_VARIABLES = 6;
    private static final int MOST_CONSTRAINTS = 12;
    private static final int MOST_LEVELS = 20;
    private static final int MOST_SOLUTIONS = 100;
    private static final int VALUES = 8;
    private static final int ALL_VALUES = 255;
    private static final int LAST_KIND = 2;
    private static final int GREATEST_C = 7;
    private static final int NOT_COUNTED = -1;

    private static final int UNEQUAL = 0;
    private static final int ORDERED = 1;
    private static final int SUM = 0;
    private static final int PRODUCT = 1;

    private final ArrayList<Constraint> constraints;
    /** Row n has the pruned domains of level n; a row that has FAILED is all zeros. */
    private final int[][] levels;
    /** Element a has the values b of the pairs a, b, as bits. */
    private final int[] draft;
    /** The values of a search, of the variables that it has fixed. */
    private final int[] chosen;
    /** The solutions one behind the other, as far as solutionCount says. */
    private final int[] solutionValues;
    private int solutionCount;
    private int variableCount;
    private int level;

    public DomainDesk() {
        constraints = new ArrayList<Constraint>();
        levels = new int[MOST_LEVELS + 1][MOST_VARIABLES];
        draft = new int[VALUES];
        chosen = new int[MOST_VARIABLES];
        solutionValues = new int[MOST_SOLUTIONS * MOST_VARIABLES];
        solutionCount = NOT_COUNTED;
        variableCount = 0;
        level = 0;
    }

    public int variable(int domain)
            throws IllegalArgumentException, IllegalStateException, UnsupportedOperationException {
        requireArgument(domain >= 1 && domain <= ALL_VALUES);
        requireGroundLevel();
        requireRoom(variableCount < MOST_VARIABLES);
        int number = variableCount;
        levels[0][number] = domain;
        variableCount = number + 1;
        domainsHaveChanged();
        prune(levels[0], bit(number));
        return number;
    }

    public int two(int kind, int x, int y, int c)
            throws IndexOutOfBoundsException, IllegalArgumentException, IllegalStateException,
            UnsupportedOperationException {
        requireVariable(x);
        requireVariable(y);
        requireArgument(isKind(kind) && x != y && c >= -GREATEST_C && c <= GREATEST_C);
        requireGroundLevel();
        requireRoom(constraints.size() < MOST_CONSTRAINTS);
        return addConstraint(new Relation(x, y, partnersByRule(kind, c)));
    }

    public int three(int kind, int x, int y, int z)
            throws IndexOutOfBoundsException, IllegalArgumentException, IllegalStateException,
            UnsupportedOperationException {
        requireVariable(x);
        requireVariable(y);
        requireVariable(z);
        requireArgument(isKind(kind) && x != y && x != z && y != z);
        requireGroundLevel();
        requireRoom(constraints.size() < MOST_CONSTRAINTS);
        return addConstraint(new Operation(x, y, z, resultsByRule(kind)));
    }

    public int different(int variables)
            throws IllegalArgumentException, IllegalStateException, UnsupportedOperationException {
        int known = bit(variableCount) - 1;
        requireArgument((variables & ~known) == 0 && Integer.bitCount(variables) >= 2);
        requireGroundLevel();
        requireRoom(constraints.size() < MOST_CONSTRAINTS);
        return addConstraint(new AllDifferent(variables));
    }

    public int pair(int a, int b) throws IllegalArgumentException {
        requireArgument(isValue(a) && isValue(b));
        draft[a] ^= bit(b);
        return countBits(draft);
    }

    public int table(int x, int y)
            throws IndexOutOfBoundsException, IllegalArgumentException, IllegalStateException,
            UnsupportedOperationException {
        requireVariable(x);
        requireVariable(y);
        requireArgument(x != y);
        requireGroundLevel();
        requireRoom(constraints.size() < MOST_CONSTRAINTS);
        int[] partners = Arrays.copyOf(draft, VALUES);
        Arrays.fill(draft, 0);
        return addConstraint(new Relation(x, y, partners));
    }

    public boolean guess(int x, int value, boolean is)
            throws IndexOutOfBoundsException, IllegalArgumentException, IllegalStateException,
            UnsupportedOperationException {
        requireVariable(x);
        requireArgument(isValue(value));
        requireState(!hasFailed());
        requireRoom(level < MOST_LEVELS);
        int[] row = levels[level + 1];
        System.arraycopy(levels[level], 0, row, 0, MOST_VARIABLES);
        row[x] &= is ? bit(value) : ~bit(value);
        level++;
        domainsHaveChanged();
        return prune(row, bit(x));
    }

    public int back() throws IllegalStateException {
        requireState(level > 0);
        level--;
        domainsHaveChanged();
        return level;
    }

    public int domain(int x) throws IndexOutOfBoundsException {
        requireVariable(x);
        return levels[level][x];
    }

    public boolean isImplied(int constraint) throws IndexOutOfBoundsException {
        requireIndex(constraint, constraints.size());
        return constraints.get(constraint).alwaysHolds(levels[level]);
    }

    /** Kept until domains change, as value() is mostly asked many times over. */
    public int solutions() {
        if (solutionCount == NOT_COUNTED) {
            solutionCount = 0;
            search(0, true);
        }
        return solutionCount;
    }

    public int value(int i, int x) throws IndexOutOfBoundsException {
        requireVariable(x);
        requireIndex(i, solutions());
        return solutionValues[i * MOST_VARIABLES + x];
    }

    public int extreme(int x, boolean most) throws IndexOutOfBoundsException {
        requireVariable(x);
        for (int step = 0; step < VALUES; step++) {
            int candidate = most ? VALUES - 1 - step : step;
            if (hasBit(levels[level][x], candidate) && isSolvableWith(x, candidate)) {
                return candidate;
            }
        }
        return NONE;
    }

    public int told(int what) {
        switch (what) {
            case 0:
                return variableCount;
            case 1:
                return constraints.size();
            case 2:
                return level;
            case 3:
                return hasFailed() ? 1 : 0;
            case 4:
                return countBits(levels[level]);
            case 5:
                return countBits(draft);
            default:
                return NONE;
        }
    }

    private void requireVariable(int x) {
        requireIndex(x, variableCount);
    }

    private static void requireIndex(int index, int count) {
        if (index < 0 || index >= count) {
            throw new IndexOutOfBoundsException("there is none of this number");
        }
    }

    private static void requireArgument(boolean isGood) {
        if (!isGood) {
            throw new IllegalArgumentException("an argument is not one of those allowed");
        }
    }

    private void requireGroundLevel() {
        requireState(level == 0);
    }

    private static void requireState(boolean isGood) {
        if (!isGood) {
            throw new IllegalStateException("the desk is not in a state for this call");
        }
    }

    private static void requireRoom(boolean isThere) {
        if (!isThere) {
            throw new UnsupportedOperationException("there would be more than there may be");
        }
    }

    private static boolean isKind(int kind) {
        return kind >= 0 && kind <= LAST_KIND;
    }

    private static boolean isValue(int number) {
        return number >= 0 && number < VALUES;
    }

    private static int bit(int number) {
        return 1 << number;
    }

    private static boolean hasBit(int bits, int number) {
        return (bits >> number & 1) != 0;
    }

    private static int countBits(int[] row) {
        int count = 0;
        for (int i = 0; i < row.length; i++) {
            count += Integer.bitCount(row[i]);
        }
        return count;
    }

    private static int[] partnersByRule(int kind, int c) {
        int[] partners = new int[VALUES];
        for (int a = 0; a < VALUES; a++) {
            for (int b = 0; b < VALUES; b++) {
                if (ruleHolds(kind, a, b, c)) {
                    partners[a] |= bit(b);
                }
            }
        }
        return partners;
    }

    private static boolean ruleHolds(int kind, int a, int b, int c) {
        switch (kind) {
            case UNEQUAL:
                return a + c != b;
            case ORDERED:
                return a + c <= b;
            default:
                return Math.abs(a - b) >= c;
        }
    }

    private static int[] resultsByRule(int kind) {
        int[] results = new int[VALUES * VALUES];
        for (int a = 0; a < VALUES; a++) {
            for (int b = 0; b < VALUES; b++) {
                int result = operate(kind, a, b);
                results[a * VALUES + b] = isValue(result) ? bit(result) : 0;
            }
        }
        return results;
    }

    private static int operate(int kind, int a, int b) {
        switch (kind) {
            case SUM:
                return a + b;
            case PRODUCT:
                return a * b;
            default:
                return Math.max(a, b);
        }
    }

    private int addConstraint(Constraint constraint) {
        constraints.add(constraint);
        domainsHaveChanged();
        prune(levels[0], constraint.members);
        return constraints.size() - 1;
    }

    private void domainsHaveChanged() {
        solutionCount = NOT_COUNTED;
    }

    private boolean hasFailed() {
        return hasEmptyDomain(levels[level]);
    }

    private boolean hasEmptyDomain(int[] row) {
        for (int x = 0; x < variableCount; x++) {
            if (row[x] == 0) {
                return true;
            }
        }
        return false;
    }

    /**
     * Answers whether the row has not failed. Constraints without a changed variable must have
     * been pruned before, so that only the others have to be looked at.
     */
    private boolean prune(int[] row, int changedVariables) {
        int changed = changedVariables;
        // Every round but the last takes a value away, so one more round than values is enough.
        for (int round = 0; round <= MOST_VARIABLES * VALUES && changed != 0; round++) {
            int changedNow = 0;
            for (int i = 0; i < constraints.size(); i++) {
                Constraint constraint = constraints.get(i);
                if ((constraint.members & (changed | changedNow)) != 0) {
                    changedNow |= constraint.narrow(row);
                }
            }
            changed = changedNow;
        }
        if (hasEmptyDomain(row)) {
            Arrays.fill(row, 0);
            return false;
        }
        return true;
    }

    private boolean isSolvableWith(int x, int candidate) {
        chosen[x] = candidate;
        return search(bit(x), false);
    }

    /**
     * Goes on where some variables (fixed, as bits) have values: whether there is no need to look
     * any further, as one solution is enough if they are not to be kept. It goes no deeper than
     * there are variables, as each step fixes one more.
     */
    private boolean search(int fixed, boolean keeping) {
        int x = Integer.numberOfTrailingZeros(~fixed);
        if (x < variableCount) {
            return tryValues(x, fixed, keeping);
        }
        return !keeping || keepSolution();
    }

    private boolean tryValues(int x, int fixed, boolean keeping) {
        int fitting = fittingValues(x, fixed);
        for (int v = 0; v < VALUES; v++) {
            if (hasBit(fitting, v)) {
                chosen[x] = v;
                if (search(fixed | bit(x), keeping)) {
                    return true;
                }
            }
        }
        return false;
    }

    private int fittingValues(int x, int fixed) {
        int fitting = levels[level][x];
        for (int i = 0; i < constraints.size() && fitting != 0; i++) {
            Constraint constraint = constraints.get(i);
            if (hasBit(constraint.members, x)) {
                fitting &= constraint.valuesFor(x, fixed, chosen);
            }
        }
        return fitting;
    }

    /** Whether there are as many now as are looked for. */
    private boolean keepSolution() {
        System.arraycopy(chosen, 0, solutionValues, solutionCount * MOST_VARIABLES, variableCount);
        solutionCount++;
        return solutionCount >= MOST_SOLUTIONS;
    }

    private abstract static class Constraint {
        /** Its variables, as bits. */
        final int members;

        Constraint(int members) {
            this.members = members;
        }

        /** Takes values without support away: the variables that lost some, as bits. */
        abstract int narrow(int[] domains);

        abstract boolean alwaysHolds(int[] domains);

        /**
         * The values, as bits, that a member can have beside the fixed variables' chosen ones. Only
         * when all other members are fixed must this be exact; before, it may be too many.
         */
        abstract int valuesFor(int member, int fixed, int[] chosen);

        boolean isLastFree(int member, int fixed) {
            return (members & ~fixed) == bit(member);
        }

        static int keepOnly(int[] domains, int x, int kept) {
            if (domains[x] == kept) {
                return 0;
            }
            domains[x] = kept;
            return bit(x);
        }
    }

    /** All constraints of two variables: which values of y go with each value of x. */
    private static final class Relation extends Constraint {
        private final int x;
        private final int y;
        private final int[] partners;
        /** The same the other way: which values of x go with each value of y. */
        private final int[] partnersOfY;

        Relation(int x, int y, int[] partners) {
            super(bit(x) | bit(y));
            this.x = x;
            this.y = y;
            this.partners = partners;
            this.partnersOfY = turn(partners);
        }

        private static int[] turn(int[] partners) {
            int[] turned = new int[VALUES];
            for (int a = 0; a < VALUES; a++) {
                for (int b = 0; b < VALUES; b++) {
                    if (hasBit(partners[a], b)) {
                        turned[b] |= bit(a);
                    }
                }
            }
            return turned;
        }

        @Override
        int narrow(int[] domains) {
            int keptX = 0;
            int keptY = 0;
            for (int a = 0; a < VALUES; a++) {
                int fitting = hasBit(domains[x], a) ? partners[a] & domains[y] : 0;
                if (fitting != 0) {
                    keptX |= bit(a);
                    keptY |= fitting;
                }
            }
            return keepOnly(domains, x, keptX) | keepOnly(domains, y, keptY);
        }

        @Override
        boolean alwaysHolds(int[] domains) {
            for (int a = 0; a < VALUES; a++) {
                if (hasBit(domains[x], a) && (domains[y] & ~partners[a]) != 0) {
                    return false;
                }
            }
            return true;
        }

        @Override
        int valuesFor(int member, int fixed, int[] chosen) {
            if (!isLastFree(member, fixed)) {
                return ALL_VALUES;
            }
            return member == y ? partners[chosen[x]] : partnersOfY[chosen[y]];
        }
    }

    /** All constraints of three variables: z is what comes out of x and y. */
    private static final class Operation extends Constraint {
        private final int x;
        private final int y;
        private final int z;
        /** Of each a and b the result, as a bit; no bit, if it is greater than any value. */
        private final int[] results;
        /** Of each a and result the values b, as bits; all kinds are the same with a and b swapped. */
        private final int[] operands;

        Operation(int x, int y, int z, int[] results) {
            super(bit(x) | bit(y) | bit(z));
            this.x = x;
            this.y = y;
            this.z = z;
            this.results = results;
            this.operands = operandsOf(results);
        }

        private static int[] operandsOf(int[] results) {
            int[] operands = new int[VALUES * VALUES];
            for (int a = 0; a < VALUES; a++) {
                for (int b = 0; b < VALUES; b++) {
                    int result = results[a * VALUES + b];
                    if (result != 0) {
                        operands[a * VALUES + Integer.numberOfTrailingZeros(result)] |= bit(b);
                    }
                }
            }
            return operands;
        }

        @Override
        int narrow(int[] domains) {
            int keptX = 0;
            int keptY = 0;
            int keptZ = 0;
            for (int a = 0; a < VALUES; a++) {
                for (int b = 0; b < VALUES && hasBit(domains[x], a); b++) {
                    int result = hasBit(domains[y], b) ? results[a * VALUES + b] & domains[z] : 0;
                    if (result != 0) {
                        keptX |= bit(a);
                        keptY |= bit(b);
                        keptZ |= result;
                    }
                }
            }
            return keepOnly(domains, x, keptX) | keepOnly(domains, y, keptY)
                    | keepOnly(domains, z, keptZ);
        }

        @Override
        boolean alwaysHolds(int[] domains) {
            for (int a = 0; a < VALUES; a++) {
                for (int b = 0; b < VALUES && hasBit(domains[x], a); b++) {
                    int wrongZ = domains[z] & ~results[a * VALUES + b];
                    if (hasBit(domains[y], b) && wrongZ != 0) {
                        return false;
                    }
                }
            }
            return true;
        }

        @Override
        int valuesFor(int member, int fixed, int[] chosen) {
            if (!isLastFree(member, fixed)) {
                return ALL_VALUES;
            }
            if (member == z) {
                return results[chosen[x] * VALUES + chosen[y]];
            }
            int other = member == x ? y : x;
            return operands[chosen[other] * VALUES + chosen[z]];
        }
    }

    private static final class AllDifferent extends Constraint {
        AllDifferent(int members) {
            super(members);
        }

        /**
         * By Hall's theorem a value has no support just when some of the other variables have no
         * more values in all than they are, and it is one of those. One pass may leave such
         * values, but it then tells a change, and pruning comes here again.
         */
        @Override
        int narrow(int[] domains) {
            int changed = 0;
            for (int some = 1; some <= members; some++) {
                if ((some & ~members) == 0) {
                    int used = valuesOf(some, domains);
                    if (Integer.bitCount(used) <= Integer.bitCount(some)) {
                        changed |= takeFrom(members & ~some, used, domains);
                    }
                }
            }
            return changed;
        }

        @Override
        boolean alwaysHolds(int[] domains) {
            int seen = 0;
            for (int x = 0; x < MOST_VARIABLES; x++) {
                if (hasBit(members, x)) {
                    if ((seen & domains[x]) != 0) {
                        return false;
                    }
                    seen |= domains[x];
                }
            }
            return true;
        }

        @Override
        int valuesFor(int member, int fixed, int[] chosen) {
            int free = ALL_VALUES;
            for (int x = 0; x < MOST_VARIABLES; x++) {
                if (hasBit(members & fixed, x)) {
                    free &= ~bit(chosen[x]);
                }
            }
            return free;
        }

        private static int valuesOf(int some, int[] domains) {
            int used = 0;
            for (int x = 0; x < MOST_VARIABLES; x++) {
                if (hasBit(some, x)) {
                    used |= domains[x];
                }
            }
            return used;
        }

        private static int takeFrom(int others, int used, int[] domains) {
            int changed = 0;
            for (int x = 0; x < MOST_VARIABLES; x++) {
                if (hasBit(others, x)) {
                    changed |= keepOnly(domains, x, domains[x] & ~used);
                }
            }
            return changed;
        }
    }
}
