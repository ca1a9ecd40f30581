/** For each promise what it answers to ordinary inputs; EdgesTest has the edges and wrong inputs. */
public final class PromisesTest {
    private static int wrong = 0;
    private static int promise = 0;

    private static void due(String call, long got, long want) {
        if (got != want) {
            wrong++;
            System.out.println("promise " + promise + ": " + call + " answered " + got + ", due is " + want);
        }
    }

    private static void due(String call, boolean got, boolean want) {
        due(call, got ? 1 : 0, want ? 1 : 0);
    }

    private static String stateOf(DomainDesk desk) {
        StringBuilder text = new StringBuilder();
        for (int what = 0; what < 6; what++) {
            text.append(desk.told(what)).append(' ');
        }
        for (int x = 0; x < desk.told(0); x++) {
            text.append(desk.domain(x)).append(' ');
        }
        for (int n = 0; n < desk.told(1); n++) {
            text.append(desk.isImplied(n)).append(' ');
        }
        int count = desk.solutions();
        for (int i = 0; i < count; i++) {
            for (int x = 0; x < desk.told(0); x++) {
                text.append(desk.value(i, x));
            }
            text.append(' ');
        }
        return text.toString();
    }

    private static DomainDesk deskWith(int... domains) {
        DomainDesk desk = new DomainDesk();
        for (int domain : domains) {
            desk.variable(domain);
        }
        return desk;
    }

    private static void dueDomains(String after, DomainDesk desk, int... domains) {
        for (int x = 0; x < domains.length; x++) {
            due("domain(" + x + ") after " + after, desk.domain(x), domains[x]);
        }
    }

    private static DomainDesk failedDesk() {
        DomainDesk desk = deskWith(1, 1, 6);
        desk.two(0, 0, 1, 0);
        return desk;
    }

    private static void newObject() {
        promise = 1;
        DomainDesk desk = new DomainDesk();
        due("told(0)", desk.told(0), 0);
        due("told(1)", desk.told(1), 0);
        due("told(2)", desk.told(2), 0);
        due("told(3)", desk.told(3), 0);
        due("told(4)", desk.told(4), 0);
        due("told(5)", desk.told(5), 0);
        due("solutions()", desk.solutions(), 1);
        due("NONE", DomainDesk.NONE, -1);
        deskWith(255).pair(1, 1);
        due("told(0) of a second object", new DomainDesk().told(0), 0);
        due("told(5) of a second object", new DomainDesk().told(5), 0);
    }

    private static void variable() {
        promise = 2;
        DomainDesk desk = new DomainDesk();
        due("variable(1)", desk.variable(1), 0);
        due("variable(255)", desk.variable(255), 1);
        due("variable(128)", desk.variable(128), 2);
        dueDomains("three variables", desk, 1, 255, 128);
        due("variable(7)", desk.variable(7), 3);
        due("variable(7)", desk.variable(7), 4);
        due("variable(7)", desk.variable(7), 5);

        DomainDesk failed = failedDesk();
        due("variable(255) when it has FAILED", failed.variable(255), 3);
        dueDomains("a variable when it has FAILED", failed, 0, 0, 0, 0);
        due("told(3)", failed.told(3), 1);

        DomainDesk solved = deskWith(3);
        due("solutions()", solved.solutions(), 2);
        solved.variable(7);
        due("solutions() with one more variable", solved.solutions(), 6);
    }

    private static void two() {
        promise = 3;
        DomainDesk unequal = deskWith(8, 255, 2);
        due("two(0, 0, 1, 2)", unequal.two(0, 0, 1, 2), 0);
        dueDomains("UNEQUAL, 3 + 2 is not y", unequal, 8, 255 - 32, 2);
        due("two(0, 1, 0, -2)", unequal.two(0, 1, 0, -2), 1);
        dueDomains("UNEQUAL, x - 2 is not 3", unequal, 8, 255 - 32, 2);
        due("two(0, 1, 0, -1)", unequal.two(0, 1, 0, -1), 2);
        dueDomains("UNEQUAL, x - 1 is not 3", unequal, 8, 255 - 32 - 16, 2);
        unequal = deskWith(3, 3);
        unequal.two(0, 0, 1, 0);
        dueDomains("UNEQUAL of two values each", unequal, 3, 3);

        DomainDesk ordered = deskWith(255, 255);
        due("two(1, 0, 1, 3)", ordered.two(1, 0, 1, 3), 0);
        dueDomains("ORDERED by 3", ordered, 31, 248);
        ordered.two(1, 1, 0, -4);
        dueDomains("ORDERED by 3 and -4", ordered, 31, 248);
        ordered.guess(1, 7, true);
        dueDomains("ORDERED by 3 and -4, y is 7", ordered, 24, 128);
        ordered = deskWith(255, 255);
        ordered.two(1, 0, 1, 7);
        dueDomains("ORDERED by 7", ordered, 1, 128);

        DomainDesk far = deskWith(255, 24);
        due("two(2, 0, 1, 4)", far.two(2, 0, 1, 4), 0);
        dueDomains("FAR by 4", far, 1 + 128, 24);
        far = deskWith(16, 255);
        far.two(2, 0, 1, 2);
        dueDomains("FAR by 2", far, 16, 7 + 64 + 128);
        far = deskWith(255, 255);
        far.two(2, 1, 0, -7);
        dueDomains("FAR by -7", far, 255, 255);
        due("FAR by -7 is implied", far.isImplied(0), true);
        far.two(2, 0, 1, 7);
        dueDomains("FAR by 7", far, 129, 129);
    }

    private static void three() {
        promise = 4;
        DomainDesk sum = deskWith(12, 6, 255);
        due("three(0, 0, 1, 2)", sum.three(0, 0, 1, 2), 0);
        dueDomains("SUM", sum, 12, 6, 8 + 16 + 32);
        sum = deskWith(255, 255, 255);
        sum.three(0, 2, 0, 1);
        sum.guess(1, 2, true);
        dueDomains("SUM that is 2", sum, 7, 4, 7);

        DomainDesk product = deskWith(255, 255, 64);
        due("three(1, 0, 1, 2)", product.three(1, 0, 1, 2), 0);
        dueDomains("PRODUCT that is 6", product, 2 + 4 + 8 + 64, 2 + 4 + 8 + 64, 64);
        product = deskWith(128, 128, 255);
        product.three(1, 0, 1, 2);
        dueDomains("PRODUCT that is 49", product, 0, 0, 0);
        product = deskWith(240, 240, 255);
        product.three(1, 0, 1, 2);
        due("PRODUCT of 32 has no value", product.told(3), 1);
        product = deskWith(255, 1, 255);
        product.three(1, 0, 1, 2);
        dueDomains("PRODUCT with 0", product, 255, 1, 1);

        DomainDesk maximum = deskWith(255, 56, 28);
        due("three(2, 0, 1, 2)", maximum.three(2, 0, 1, 2), 0);
        dueDomains("MAXIMUM", maximum, 31, 24, 24);
        maximum = deskWith(7, 7, 4);
        maximum.three(2, 0, 1, 2);
        maximum.guess(0, 2, false);
        dueDomains("MAXIMUM that is y", maximum, 3, 4, 4);
    }

    private static void different() {
        promise = 5;
        DomainDesk desk = deskWith(3, 3, 255, 255);
        due("different(7)", desk.different(7), 0);
        dueDomains("DIFFERENT of 0, 1, 2", desk, 3, 3, 252, 255);
        due("different(10)", desk.different(10), 1);
        dueDomains("DIFFERENT of 1, 3", desk, 3, 3, 252, 255);
        DomainDesk chain = deskWith(255, 1, 3, 7, 15, 31);
        chain.different(63);
        dueDomains("DIFFERENT one after the other", chain, 224, 1, 2, 4, 8, 16);
        DomainDesk three = deskWith(3, 6, 5, 15);
        three.different(15);
        dueDomains("DIFFERENT with three of three", three, 3, 6, 5, 8);
        DomainDesk crowd = deskWith(7, 7, 7, 7);
        due("different of four with three values", crowd.different(15), 0);
        dueDomains("four with three values", crowd, 0, 0, 0, 0);
        DomainDesk six = deskWith(255, 255, 255, 255, 255, 255);
        due("different(63)", six.different(63), 0);
        due("different(48)", six.different(48), 1);
    }

    private static void pair() {
        promise = 6;
        DomainDesk desk = new DomainDesk();
        due("pair(0, 0)", desk.pair(0, 0), 1);
        due("pair(7, 7)", desk.pair(7, 7), 2);
        due("pair(1, 2)", desk.pair(1, 2), 3);
        due("pair(2, 1)", desk.pair(2, 1), 4);
        due("pair(1, 2) again", desk.pair(1, 2), 3);
        due("pair(1, 2) once more", desk.pair(1, 2), 4);
        DomainDesk all = deskWith(255);
        all.guess(0, 0, true);
        for (int n = 0; n < 64; n++) {
            due("pair of all pairs at level 1", all.pair(n / 8, n % 8), n + 1);
        }
        due("told(5)", all.told(5), 64);
        due("pair(3, 4) of all", all.pair(3, 4), 63);
    }

    private static void table() {
        promise = 7;
        DomainDesk desk = deskWith(255, 255, 255);
        desk.pair(1, 5);
        desk.pair(2, 5);
        desk.pair(2, 0);
        due("table(0, 1)", desk.table(0, 1), 0);
        due("told(5)", desk.told(5), 0);
        dueDomains("TABLE", desk, 6, 33, 255);
        desk.pair(6, 1);
        due("told(5) with a new draft", desk.told(5), 1);
        due("table(2, 0)", desk.table(2, 0), 1);
        dueDomains("TABLE the other way", desk, 2, 32, 64);

        DomainDesk empty = deskWith(255, 255);
        due("table(0, 1) of no pairs", empty.table(0, 1), 0);
        due("told(3)", empty.told(3), 1);
        dueDomains("TABLE of no pairs", empty, 0, 0);
    }

    private static void guess() {
        promise = 8;
        DomainDesk desk = deskWith(15, 15);
        desk.two(1, 0, 1, 1);
        due("guess(0, 1, true)", desk.guess(0, 1, true), true);
        dueDomains("guess(0, 1, true)", desk, 2, 12);
        due("guess(1, 3, false)", desk.guess(1, 3, false), true);
        dueDomains("guess(1, 3, false)", desk, 2, 4);
        due("guess(1, 7, false), a value that it hasn't", desk.guess(1, 7, false), true);
        due("told(2)", desk.told(2), 3);
        due("guess(1, 7, true), a value that it hasn't", desk.guess(1, 7, true), false);
        due("told(2) when it has FAILED", desk.told(2), 4);
        dueDomains("a guess that FAILED", desk, 0, 0);

        DomainDesk deep = deskWith(255, 1);
        for (int n = 0; n < 20; n++) {
            due("guess to level " + (n + 1), deep.guess(0, n % 7, false), true);
        }
        due("told(2)", deep.told(2), 20);
        deep.back();
        due("guess that FAILED at level 20", deep.guess(1, 0, false), false);
    }

    private static void back() {
        promise = 9;
        DomainDesk desk = deskWith(7, 7);
        desk.different(3);
        String ground = stateOf(desk);
        desk.guess(0, 1, false);
        String first = stateOf(desk);
        desk.guess(1, 2, true);
        desk.guess(0, 2, true);
        due("told(3)", desk.told(3), 1);
        due("back()", desk.back(), 2);
        dueDomains("back()", desk, 1, 4);
        due("back()", desk.back(), 1);
        due("the state at level 1 is as before", stateOf(desk).equals(first), true);
        due("back()", desk.back(), 0);
        due("the state at level 0 is as before", stateOf(desk).equals(ground), true);
        due("variable(3) back at level 0", desk.variable(3), 2);
        due("guess after back()", desk.guess(1, 0, false), true);
        dueDomains("guess after back()", desk, 7, 6, 3);
    }

    private static void domain() {
        promise = 10;
        DomainDesk desk = deskWith(255, 129, 1);
        dueDomains("no constraint", desk, 255, 129, 1);
        desk.two(1, 0, 1, 0);
        dueDomains("ORDERED", desk, 255, 129, 1);
        desk.two(0, 2, 0, 0);
        desk.guess(1, 7, false);
        dueDomains("a guess that FAILED", desk, 0, 0, 0);
        desk.back();
        dueDomains("back()", desk, 254, 128, 1);
        DomainDesk local = deskWith(3, 3, 3);
        local.two(0, 0, 1, 0);
        local.two(0, 1, 2, 0);
        local.two(0, 0, 2, 0);
        dueDomains("three UNEQUAL, each by itself", local, 3, 3, 3);
        due("solutions() of them", local.solutions(), 0);
        due("told(3)", local.told(3), 0);
        longPruning();
    }

    /** Each value that goes out of one domain lets only one more go out of the next one, 42 in all. */
    private static void longPruning() {
        DomainDesk desk = deskWith(255, 255, 255, 255, 255, 255);
        for (int x = 4; x >= 0; x--) {
            for (int v = 0; v < 8; v++) {
                desk.pair(v, v);
            }
            desk.table(x, x + 1);
        }
        for (int v = 0; v < 7; v++) {
            desk.pair(v, v + 1);
        }
        desk.pair(7, 7);
        desk.table(5, 0);
        dueDomains("a long pruning", desk, 128, 128, 128, 128, 128, 128);
    }

    private static void isImplied() {
        promise = 11;
        DomainDesk desk = deskWith(7, 56, 7, 255, 3);
        int ordered = desk.two(1, 0, 1, 1);
        int orderedMore = desk.two(1, 0, 1, 2);
        int unequal = desk.two(0, 0, 1, 0);
        int far = desk.two(2, 1, 0, 2);
        int apart = desk.different(3);
        int together = desk.different(7);
        int sum = desk.three(0, 4, 0, 3);
        due("ORDERED by 1", desk.isImplied(ordered), true);
        due("ORDERED by 2", desk.isImplied(orderedMore), false);
        due("UNEQUAL", desk.isImplied(unequal), true);
        due("FAR by 2", desk.isImplied(far), false);
        due("DIFFERENT without a shared value", desk.isImplied(apart), true);
        due("DIFFERENT with shared values", desk.isImplied(together), false);
        due("SUM", desk.isImplied(sum), false);
        desk.guess(4, 0, true);
        due("SUM with 0", desk.isImplied(sum), false);
        desk.guess(0, 2, true);
        due("SUM of single values", desk.isImplied(sum), true);
        due("ORDERED by 2 from 2, pruned", desk.isImplied(orderedMore), true);
        due("DIFFERENT with one value taken away", desk.isImplied(together), true);
        desk.back();
        due("ORDERED by 2 after back()", desk.isImplied(orderedMore), false);

        DomainDesk others = deskWith(6, 1, 255, 255);
        int product = others.three(1, 0, 1, 2);
        int maximum = others.three(2, 0, 1, 3);
        others.pair(1, 3);
        others.pair(2, 3);
        int table = others.table(0, 3);
        due("PRODUCT with 0", others.isImplied(product), true);
        due("TABLE that leaves nothing", others.isImplied(table), true);
        due("MAXIMUM when it has FAILED", others.isImplied(maximum), true);
        others = deskWith(6, 1, 255);
        others.three(2, 0, 1, 2);
        due("MAXIMUM of two and one", others.isImplied(0), false);
        others.guess(0, 2, true);
        due("MAXIMUM of single values", others.isImplied(0), true);
        others = deskWith(6, 24);
        others.pair(1, 3);
        others.pair(2, 3);
        others.pair(2, 4);
        others.table(0, 1);
        due("TABLE of some pairs", others.isImplied(0), false);
        others.guess(0, 2, true);
        due("TABLE of all pairs that are left", others.isImplied(0), true);
        due("UNEQUAL when it has FAILED", failedDesk().isImplied(0), true);
    }

    private static void solutions() {
        promise = 12;
        DomainDesk desk = deskWith(7, 7, 7);
        due("solutions()", desk.solutions(), 27);
        desk.different(7);
        due("solutions() when DIFFERENT", desk.solutions(), 6);
        desk.guess(0, 1, true);
        due("solutions() at level 1", desk.solutions(), 2);
        desk.guess(1, 1, true);
        due("solutions() when it has FAILED", desk.solutions(), 0);
        desk.back();
        due("solutions() back at level 1", desk.solutions(), 2);
        desk.back();
        due("solutions() back at level 0", desk.solutions(), 6);
        due("solutions() of 64", deskWith(255, 255).solutions(), 64);
        due("solutions() of 96", deskWith(255, 15, 7).solutions(), 96);
        due("solutions() of 100", deskWith(31, 31, 15).solutions(), 100);
        due("solutions() of 105", deskWith(127, 31, 7).solutions(), 100);
        due("solutions() of many", deskWith(255, 255, 255, 255, 255, 255).solutions(), 100);
        due("solutions() at level 0 when it has FAILED", failedDesk().solutions(), 0);
        due("solutions() without variables", new DomainDesk().solutions(), 1);
    }

    private static void value() {
        promise = 13;
        DomainDesk desk = deskWith(255, 255, 36);
        desk.three(0, 0, 1, 2);
        int[][] want = {{0, 2, 2}, {0, 5, 5}, {1, 1, 2}, {1, 4, 5}, {2, 0, 2}, {2, 3, 5}, {3, 2, 5}, {4, 1, 5}, {5, 0, 5}};
        due("solutions()", desk.solutions(), want.length);
        for (int i = 0; i < want.length; i++) {
            for (int x = 0; x < 3; x++) {
                due("value(" + i + ", " + x + ")", desk.value(i, x), want[i][x]);
            }
        }
        desk.guess(1, 0, true);
        due("value(1, 0) at level 1", desk.value(1, 0), 5);
        due("value(0, 2) at level 1", desk.value(0, 2), 2);
        desk.back();
        due("value(8, 0) back at level 0", desk.value(8, 0), 5);
        due("extreme(0, true)", desk.extreme(0, true), 5);
        due("value(0, 1) after extreme()", desk.value(0, 1), 2);
        DomainDesk many = deskWith(255, 255, 255, 255, 255, 255);
        due("value(99, 3) of many", many.value(99, 3), 1);
        due("value(99, 4) of many", many.value(99, 4), 4);
        due("value(99, 5) of many", many.value(99, 5), 3);
    }

    private static void extreme() {
        promise = 14;
        DomainDesk desk = deskWith(254, 255, 255, 255);
        due("extreme(0, false)", desk.extreme(0, false), 1);
        due("extreme(0, true), beyond the first 100", desk.extreme(0, true), 7);
        due("extreme(3, false)", desk.extreme(3, false), 0);
        desk.three(0, 0, 1, 2);
        desk.two(0, 1, 3, 0);
        due("extreme(2, false)", desk.extreme(2, false), 1);
        due("extreme(1, true)", desk.extreme(1, true), 6);
        desk.guess(2, 4, true);
        due("extreme(0, true) at level 1", desk.extreme(0, true), 4);
        due("extreme(1, false) at level 1", desk.extreme(1, false), 0);
        due("extreme(2, false) at level 1", desk.extreme(2, false), 4);
        desk.guess(2, 3, true);
        due("extreme(2, false) when it has FAILED", desk.extreme(2, false), DomainDesk.NONE);
        due("extreme(2, true) when it has FAILED", desk.extreme(2, true), DomainDesk.NONE);

        DomainDesk narrow = deskWith(7, 3, 3);
        narrow.two(0, 0, 1, 0);
        narrow.two(0, 1, 2, 0);
        narrow.two(0, 0, 2, 0);
        due("domain(0)", narrow.domain(0), 7);
        due("extreme(0, false), not the least of the domain", narrow.extreme(0, false), 2);
        DomainDesk none = deskWith(3, 3, 3);
        none.two(0, 0, 1, 0);
        none.two(0, 1, 2, 0);
        none.two(0, 0, 2, 0);
        due("extreme(1, false) without solutions", none.extreme(1, false), DomainDesk.NONE);
        due("extreme(1, true) without solutions", none.extreme(1, true), DomainDesk.NONE);
    }

    private static void told() {
        promise = 15;
        DomainDesk desk = deskWith(255, 15, 129);
        desk.two(2, 0, 1, 0);
        desk.two(2, 0, 1, -1);
        desk.pair(1, 1);
        desk.pair(1, 0);
        desk.pair(5, 0);
        desk.guess(0, 3, false);
        due("told(0)", desk.told(0), 3);
        due("told(1)", desk.told(1), 2);
        due("told(2)", desk.told(2), 1);
        due("told(3)", desk.told(3), 0);
        due("told(4)", desk.told(4), 7 + 4 + 2);
        due("told(5)", desk.told(5), 3);
        desk.guess(0, 3, true);
        due("told(2) when it has FAILED", desk.told(2), 2);
        due("told(3) when it has FAILED", desk.told(3), 1);
        due("told(4) when it has FAILED", desk.told(4), 0);
        due("told(5) when it has FAILED", desk.told(5), 3);
        for (int what : new int[] {6, -1, 7, Integer.MIN_VALUE, Integer.MAX_VALUE}) {
            due("told(" + what + ")", desk.told(what), DomainDesk.NONE);
        }
    }

    public static void main(String[] args) {
        newObject();
        variable();
        two();
        three();
        different();
        pair();
        table();
        guess();
        back();
        domain();
        isImplied();
        solutions();
        value();
        extreme();
        told();
        System.out.println(wrong == 0 ? "all answers are as due" : wrong + " answers are not as due");
        if (wrong != 0) {
            System.exit(1);
        }
    }
}
