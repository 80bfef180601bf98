import java.util.function.IntConsumer;

/** A test of its own for each sentence of the promises that names a boundary case. */
public final class BoundaryTest {
    private static final int INVALID = Tried.INVALID;
    private static final int NOT_POSSIBLE = Tried.NOT_POSSIBLE;
    private static final int LIMIT = Tried.LIMIT;
    private static final int NOT_FOUND = Tried.NOT_FOUND;
    private static final int LOW = Tried.LOW;
    private static final int HIGH = Tried.HIGH;
    private static final int[] MANY = Tried.MANY;
    private static final int MOST = 50000;
    private static final int[] SUM = Tried.range(0, 2);
    private static final int[] CHOICE = Tried.range(0, 1);
    private static final int[] FACTOR = Tried.range(-999, 999);
    private static final int[] MULTIPLE = Tried.range(-99, 99);
    private static final String EITHER_INVALID = "INVALID_ARGUMENT if an argument is out of range";
    private static final String SUM_INVALID = "INVALID_ARGUMENT if sum is out of range";

    private static final Sentences DOCUMENT = new Sentences();

    private static void in(String section) {
        DOCUMENT.in(section);
    }

    private static void test(String words, Runnable calls) {
        DOCUMENT.test(words, calls);
    }

    private static void plain(String... sentences) {
        DOCUMENT.plain(sentences);
    }

    /** The test is made for 1 to 5 letters. */
    private static void testEach(String words, IntConsumer calls) {
        DOCUMENT.test(words, () -> {
            for (int n = 1; n <= 5; n++) {
                calls.accept(n);
            }
        });
    }

    private static Tried fresh() {
        return Tried.fresh();
    }

    private static Tried with(int n) {
        return Tried.with(n);
    }

    private static int[] args(int... arguments) {
        return arguments;
    }

    private static int[] orders(int n) {
        return Tried.range(0, MANY[n] - 1);
    }

    private static int lastSet(int n) {
        return (1 << (n - 1)) - 1;
    }

    private static int[] sets(int n) {
        return Tried.range(0, lastSet(n));
    }

    private static void outside(int n, String name, int[] good, int[]... ranges) {
        Tried.outside(() -> Tried.prepared(n), name, good, ranges);
    }

    /** The call has just its last argument changed, and refuses these. */
    private static void refusesLast(int n, String name, int[] good, int... bad) {
        for (int each : bad) {
            int[] arguments = good.clone();
            arguments[good.length - 1] = each;
            Tried.refuses(() -> Tried.prepared(n), INVALID, name, arguments);
        }
    }

    private static void newObject() {
        in("Promise 1: A new object");
        test("Creates three sums of orders of 3 letters, without factors", () -> {
            Tried x = fresh().due(3, "count", 0).due(6, "count", 1).due(0, "count", 2).due(0, "count", 3);
            for (int sum = 0; sum < 3; sum++) {
                x.due(0, "sumOf", sum, 0).due(0, "factor", sum, 0).due(0, "factor", sum, 5);
            }
            x.due(INVALID, "sumOf", 3, 0).due(INVALID, "factor", 0, 6).due(NOT_POSSIBLE, "undo").due(0, "fault");
        });
    }

    private static void begin() {
        in("Promise 2: begin");
        testEach("Begins anew with orders of so many letters; all factors are 0", n -> {
            for (int before = 1; before <= 5; before++) {
                Tried x = with(before);
                for (int sum = 0; sum < 3; sum++) {
                    x.goes("addClass", sum, lastSet(before), 1, 7);
                }
                x.due(MANY[n], "begin", n).due(n, "count", 0).due(4, "count", 2);
                for (int sum = 0; sum < 3; sum++) {
                    x.due(0, "sumOf", sum, 0).due(0, "sumOf", sum, 3).due(0, "sumOf", sum, 4);
                }
                // Nothing may be left at orders that few letters don't reach.
                x.due(MANY[5], "begin", 5).due(0, "sumOf", 0, 0).due(0, "factor", 2, MANY[before] - 1);
            }
        });
        test("`n`: 1 to 5", () -> fresh().due(1, "begin", 1).due(1, "count", 0)
            .due(120, "begin", 5).due(5, "count", 0));
        testEach("Returns how many orders there are", n -> fresh().due(MANY[n], "begin", n).due(MANY[n], "count", 1));
        test("INVALID_ARGUMENT if n is out of range", () -> outside(3, "begin", args(4), Tried.range(1, 5)));
    }

    private static void add() {
        in("Promise 3: add");
        plain("Adds to the factor of an order");
        test("`sum`: 0 to 2", () -> fresh().due(5, "add", 0, 1, 5).due(6, "add", 2, 1, 6)
            .due(5, "factor", 0, 1).due(0, "factor", 1, 1).due(6, "factor", 2, 1));
        testEach("`order`: number of the order", n -> {
            int last = MANY[n] - 1;
            with(n).due(5, "add", 0, 0, 5).due(last == 0 ? 8 : 3, "add", 0, last, 3)
                .due(last == 0 ? 8 : 5, "factor", 0, 0).due(last == 0 ? 8 : 3, "factor", 0, last);
        });
        test("`factor`: -999 to 999", () -> fresh().due(-999, "add", 0, 0, -999).due(0, "add", 0, 0, 999)
            .due(999, "add", 0, 0, 999).due(999, "add", 0, 0, 0));
        test("Returns the factor then", () -> fresh().due(0, "add", 0, 0, 0)
            .raise(0, 0, MOST - 1).due(MOST, "add", 0, 0, 1).raise(0, 1, 1 - MOST).due(-MOST, "add", 0, 1, -1));
        testEach(EITHER_INVALID, n -> outside(n, "add", args(0, 0, 1), SUM, orders(n), FACTOR));
        test("LIMIT_REACHED", () -> {
            Tried.refuses(() -> with(2).raise(1, 1, MOST), LIMIT, "add", 1, 1, 1);
            Tried.refuses(() -> with(2).raise(1, 1, -MOST), LIMIT, "add", 1, 1, -1);
            Tried.refuses(() -> with(2).raise(1, 1, MOST - 998), LIMIT, "add", 1, 1, 999);
            Tried.refuses(() -> with(2).raise(1, 1, 998 - MOST), LIMIT, "add", 1, 1, -999);
            with(2).raise(1, 1, MOST).due(MOST - 1, "add", 1, 1, -1).due(1, "add", 1, 0, 1);
        });
    }

    private static void addClass() {
        in("Promise 4: addClass");
        plain("Adds a multiple of a class");
        test("`sum`: 0 to 2", () -> fresh().due(2, "addClass", 0, 1, 0, 5).due(2, "addClass", 2, 1, 0, 6)
            .due(5, "factor", 0, 2).due(0, "factor", 1, 2).due(6, "factor", 2, 2));
        testEach("`set`: a set of descents", n -> {
            int last = MANY[n] - 1;
            with(n).due(1, "addClass", 0, 0, 0, 2).due(1, "addClass", 1, lastSet(n), 0, 3)
                .due(2, "factor", 0, 0).due(3, "factor", 1, last).due(1, "sumOf", 0, 0).due(1, "sumOf", 1, 0);
        });
        testEach("`wide`: 0: the class; 1: the wide class", n -> with(n)
            .due(1, "addClass", 0, lastSet(n), 0, 1).due(1, "sumOf", 0, 0)
            .due(MANY[n], "addClass", 1, lastSet(n), 1, 1).due(MANY[n], "sumOf", 1, 0).due(1, "addClass", 2, 0, 1, 1));
        test("`factor`: -999 to 999", () -> fresh().due(3, "addClass", 0, 1, 1, -999).due(-999, "sumOf", 0, 4)
            .due(3, "addClass", 0, 1, 1, 999).due(0, "sumOf", 0, 0).due(3, "addClass", 0, 1, 1, 999)
            .due(3, "addClass", 0, 1, 1, 0).due(999, "sumOf", 0, 3).due(3, "sumOf", 0, 0));
        test("Returns how many orders it has", () -> {
            // However few of them have another factor than 0 then.
            with(5).due(1, "addClass", 0, 0, 0, 1).due(1, "addClass", 0, 15, 0, 1).due(120, "addClass", 0, 15, 1, 0)
                .due(120, "addClass", 0, 15, 1, -1).due(16, "addClass", 0, 10, 0, 1).due(30, "addClass", 0, 10, 1, 1);
        });
        testEach(EITHER_INVALID, n -> outside(n, "addClass", args(0, 0, 0, 1), SUM, sets(n), CHOICE, FACTOR));
        test("LIMIT_REACHED", () -> {
            // bca alone is at the bound, or cba, the last one.
            Tried.refuses(() -> fresh().raise(0, 3, MOST), LIMIT, "addClass", 0, 2, 0, 1);
            Tried.refuses(() -> fresh().raise(0, 3, -MOST), LIMIT, "addClass", 0, 2, 1, -1);
            Tried.refuses(() -> fresh().raise(0, 5, MOST), LIMIT, "addClass", 0, 3, 1, 1);
            fresh().raise(0, 3, MOST).due(2, "addClass", 0, 1, 0, 999).due(6, "addClass", 0, 3, 1, -1)
                .due(MOST - 1, "factor", 0, 3).due(6, "addClass", 0, 3, 1, 1).due(MOST, "factor", 0, 3);
        });
    }

    private static void clear() {
        in("Promise 5: clear");
        plain("Makes all factors of a sum 0");
        test("`sum`: 0 to 2", () -> fresh().due(1, "add", 0, 0, 1).due(1, "add", 1, 0, 1).due(1, "add", 2, 0, 1)
            .due(1, "clear", 0).due(1, "clear", 2).due(0, "sumOf", 0, 0).due(1, "sumOf", 1, 0).due(0, "sumOf", 2, 0));
        testEach("Returns how many orders had another factor than 0", n -> with(n).due(0, "clear", 0)
            .due(MANY[n], "addClass", 0, lastSet(n), 1, -1).due(MANY[n], "clear", 0).due(0, "clear", 0)
            .due(5, "add", 0, MANY[n] - 1, 5).due(1, "clear", 0));
        test(SUM_INVALID, () -> outside(3, "clear", args(0), SUM));
    }

    private static void multiply() {
        in("Promise 6: multiply");
        test("(perhaps itself)", () -> {
            // acb + 2 bac times cab: each sum is 0 or 1 when it is made.
            Tried apart = fresh().due(1, "add", 0, 1, 1).due(2, "add", 0, 2, 2).due(3, "add", 1, 4, 3);
            apart.due(2, "multiply", 2, 0, 1).due(3, "factor", 2, 2).due(6, "factor", 2, 5);
            apart.due(2, "multiply", 0, 0, 1).due(0, "combine", 0, 0, 1, 2, -1);
            Tried second = fresh().due(1, "add", 0, 1, 1).due(2, "add", 0, 2, 2).due(3, "add", 1, 4, 3);
            second.due(2, "multiply", 1, 0, 1).due(3, "factor", 1, 2).due(6, "factor", 1, 5);
            // (acb + 2 bac) by itself is 5 abc + 2 cab + 2 bca.
            second.due(3, "multiply", 0, 0, 0).due(5, "factor", 0, 0).due(2, "factor", 0, 3).due(2, "factor", 0, 4);
        });
        test("`sum`: 0 to 2: the one that is made", () -> fresh().due(2, "add", 1, 0, 2)
            .due(1, "multiply", 0, 1, 1).due(1, "multiply", 2, 1, 1).due(4, "factor", 0, 0).due(2, "factor", 1, 0)
            .due(4, "factor", 2, 0));
        test("`one`: 0 to 2: the first sum", () -> fresh().due(2, "add", 0, 1, 2).due(3, "add", 1, 2, 3)
            .due(5, "add", 2, 4, 5).due(1, "multiply", 1, 0, 1).due(6, "factor", 1, 4)
            .due(1, "multiply", 1, 2, 1).due(30, "factor", 1, 3));
        test("`other`: 0 to 2: the second one", () -> fresh().due(2, "add", 0, 1, 2).due(3, "add", 1, 2, 3)
            .due(5, "add", 2, 4, 5).due(1, "multiply", 1, 1, 0).due(6, "factor", 1, 3)
            .due(1, "multiply", 1, 1, 2).due(30, "factor", 1, 0));
        test("Returns how many orders have another factor than 0 then", () -> {
            fresh().due(0, "multiply", 2, 0, 1).due(9, "add", 2, 0, 9).due(0, "multiply", 2, 0, 2)
                .due(0, "sumOf", 2, 0);
            // 1 + acb by 1 - acb: both products for each order come to 0.
            fresh().due(1, "add", 0, 0, 1).due(1, "add", 0, 1, 1).due(1, "add", 1, 0, 1).due(-1, "add", 1, 1, -1)
                .due(0, "multiply", 0, 0, 1);
            with(5).due(120, "addClass", 0, 15, 1, 1).due(120, "multiply", 0, 0, 0).due(120, "factor", 0, 119);
        });
        test(EITHER_INVALID, () -> outside(3, "multiply", args(2, 0, 1), SUM, SUM, SUM));
        test("LIMIT_REACHED", () -> {
            // 250 * 200 is just at the bound, 251 * 200 beyond it; one of six orders may be too much.
            fresh().due(250, "add", 0, 0, 250).due(200, "add", 1, 5, 200).due(1, "multiply", 2, 0, 1)
                .due(MOST, "factor", 2, 5).due(-50, "add", 1, 5, -250).due(-200, "add", 1, 5, -150)
                .due(1, "multiply", 2, 0, 1).due(-MOST, "factor", 2, 5);
            Tried.refuses(() -> fresh().due(251, "add", 0, 0, 251).due(200, "add", 1, 5, 200).due(1, "add", 1, 0, 1),
                LIMIT, "multiply", 1, 0, 1);
            Tried.refuses(() -> fresh().due(251, "add", 0, 0, 251).due(-200, "add", 1, 0, -200),
                LIMIT, "multiply", 0, 1, 0);
            Tried.refuses(() -> fresh().raise(0, 0, MOST).due(1, "add", 1, 0, 1).due(1, "add", 1, 1, 1)
                .due(1, "add", 0, 1, 1), LIMIT, "multiply", 2, 0, 1);
            Tried.refuses(() -> with(1).raise(0, 0, MOST), LIMIT, "multiply", 0, 0, 0);
        });
    }

    private static void combine() {
        in("Promise 7: combine");
        test("(perhaps itself)", () -> fresh().due(3, "add", 0, 0, 3).due(5, "add", 1, 1, 5)
            .due(2, "combine", 0, 0, 2, 1, -1).due(6, "factor", 0, 0).due(-5, "factor", 0, 1)
            .due(2, "combine", 1, 0, 1, 1, 3).due(6, "factor", 1, 0).due(10, "factor", 1, 1)
            .due(2, "combine", 1, 1, 2, 1, 3).due(30, "factor", 1, 0).due(50, "factor", 1, 1));
        test("`sum`: 0 to 2: the one that is made", () -> fresh().due(2, "add", 1, 0, 2)
            .due(1, "combine", 0, 1, 1, 1, 1).due(1, "combine", 2, 1, 1, 1, 1).due(4, "factor", 0, 0)
            .due(2, "factor", 1, 0).due(4, "factor", 2, 0));
        test("`one`: 0 to 2: the first sum", () -> fresh().due(2, "add", 0, 0, 2).due(5, "add", 2, 0, 5)
            .due(1, "combine", 1, 0, 1, 1, 0).due(2, "factor", 1, 0).due(1, "combine", 1, 2, 1, 1, 0)
            .due(5, "factor", 1, 0));
        test("`first`: -99 to 99: its multiple", () -> fresh().due(2, "add", 0, 0, 2).due(1, "combine", 1, 0, -99, 2, 7)
            .due(-198, "factor", 1, 0).due(1, "combine", 1, 0, 99, 2, 7).due(198, "factor", 1, 0)
            .due(0, "combine", 1, 0, 0, 2, 7));
        test("`other`: 0 to 2: the second sum", () -> fresh().due(2, "add", 0, 0, 2).due(5, "add", 2, 0, 5)
            .due(1, "combine", 1, 1, 0, 0, 1).due(2, "factor", 1, 0).due(1, "combine", 1, 1, 0, 2, 1)
            .due(5, "factor", 1, 0));
        test("`second`: -99 to 99: its multiple", () -> fresh().due(2, "add", 0, 0, 2)
            .due(1, "combine", 1, 2, 7, 0, -99).due(-198, "factor", 1, 0).due(1, "combine", 1, 2, 7, 0, 99)
            .due(198, "factor", 1, 0).due(0, "combine", 1, 2, 7, 0, 0));
        test("Returns how many orders have another factor than 0 then", () -> fresh().due(0, "combine", 0, 1, 99, 2, 99)
            .due(6, "addClass", 0, 3, 1, 4).due(6, "combine", 1, 0, 1, 2, 1).due(1, "add", 1, 5, -3)
            .due(1, "combine", 2, 0, 1, 1, -1).due(0, "combine", 2, 0, 1, 0, -1).due(0, "combine", 0, 0, 0, 0, 0));
        test(EITHER_INVALID, () -> outside(3, "combine", args(2, 0, 1, 1, 1), SUM, SUM, MULTIPLE, SUM, MULTIPLE));
        test("LIMIT_REACHED", () -> {
            fresh().due(505, "add", 0, 5, 505).due(5, "add", 1, 5, 5).due(1, "combine", 2, 0, 99, 1, 1)
                .due(MOST, "factor", 2, 5).due(1, "combine", 2, 0, -99, 1, -1).due(-MOST, "factor", 2, 5);
            Tried.refuses(() -> fresh().due(505, "add", 0, 5, 505).due(5, "add", 1, 5, 5).due(1, "add", 2, 5, 1)
                .due(1, "combine", 1, 1, 1, 2, 1), LIMIT, "combine", 2, 0, 99, 1, 1);
            Tried.refuses(() -> fresh().due(505, "add", 0, 0, 505).due(6, "add", 1, 0, 6),
                LIMIT, "combine", 0, 1, -1, 0, -99);
        });
    }

    private static void turn() {
        in("Promise 8: turn");
        test("the factor of each order goes to another order", () -> {
            // Just at the bounds, for a turn can go beyond none.
            Tried x = fresh().raise(0, 1, MOST).raise(0, 3, -MOST);
            x.due(2, "turn", 0, 0).due(MOST, "factor", 0, 1).due(-MOST, "factor", 0, 4).due(0, "factor", 0, 3);
            x.due(1, "turn", 0, 3).due(-MOST, "factor", 0, 1).due(-MOST, "factor", 0, 4);
        });
        test("`sum`: 0 to 2", () -> fresh().due(1, "add", 0, 3, 1).due(1, "add", 1, 3, 1).due(1, "add", 2, 3, 1)
            .due(2, "turn", 0, 0).due(2, "turn", 2, 0).due(1, "factor", 0, 4).due(1, "factor", 1, 3)
            .due(1, "factor", 2, 4));
        test("`way`: 0: to its inverse", () -> {
            // The inverse of bcda is dabc, read backwards it is adcb, with other letters cbad.
            int[] goals = {18, 5, 14, 9};
            for (int way = 0; way < 4; way++) {
                with(4).due(3, "add", 0, 9, 3).goes("turn", 0, way).due(way == 3 ? -3 : 3, "factor", 0, goals[way])
                    .due(1, "sumOf", 0, 0);
                with(1).due(3, "add", 0, 0, 3).due(0, "turn", 0, way).due(3, "factor", 0, 0);
                int last = way == 1 || way == 2 ? 119 : 0;
                with(5).due(3, "add", 0, 0, 3).goes("turn", 0, way).due(3, "factor", 0, last);
            }
        });
        test("Returns how many orders have another factor than before then", () -> {
            for (int way = 0; way < 4; way++) {
                with(5).due(0, "turn", 0, way).due(120, "addClass", 0, 15, 1, 1).due(way == 3 ? 60 : 0, "turn", 0, way);
            }
            fresh().due(1, "add", 0, 0, 1).due(2, "turn", 0, 1).due(1, "add", 0, 0, 1).due(0, "turn", 0, 1);
        });
        test(EITHER_INVALID, () -> outside(3, "turn", args(0, 1), SUM, Tried.range(0, 3)));
    }

    private static void shuffle() {
        in("Promise 9: shuffle");
        test("(with others between, perhaps)", () -> {
            // ba with c: bac, bca and cba, with none between, one between and one ahead.
            Tried x = fresh().due(3, "shuffle", 0, 2, 1, 0).due(3, "sumOf", 0, 0);
            x.due(1, "factor", 0, 2).due(1, "factor", 0, 3).due(1, "factor", 0, 5);
            // a with cb: acb, cab and cba; cba comes to 2.
            x.due(3, "shuffle", 0, 1, 0, 1).due(5, "sumOf", 0, 0).due(2, "factor", 0, 5);
            // ab with dc: from the one behind the other to the other way round.
            with(4).due(6, "shuffle", 0, 2, 0, 1).due(1, "termOf", 0, 0, 0).due(22, "termOf", 0, 5, 0);
        });
        test("`sum`: 0 to 2", () -> fresh().due(3, "shuffle", 0, 1, 0, 0).due(3, "shuffle", 2, 1, 0, 0)
            .due(3, "sumOf", 0, 0).due(0, "sumOf", 1, 0).due(3, "sumOf", 2, 0));
        testEach("`k`: 1 to n - 1", n -> {
            if (n > 1) {
                with(n).due(n, "shuffle", 0, 1, 0, 0).due(n, "shuffle", 1, n - 1, 0, 0);
            }
            Tried.refuses(() -> with(n), INVALID, "shuffle", 0, n, 0, 0);
            Tried.refuses(() -> with(n), INVALID, "shuffle", 0, 0, 0, 0);
        });
        test("`one`: number of an order of k letters", () -> {
            // The least shuffle of the last order is a, bacde, cbade or dcbae.
            int[] least = {0, 0, 24, 54, 86};
            for (int k = 1; k <= 4; k++) {
                with(5).goes("shuffle", 0, k, 0, 0).due(0, "termOf", 0, 0, 0)
                    .goes("shuffle", 1, k, MANY[k] - 1, 0).due(least[k], "termOf", 1, 0, 0)
                    .due(INVALID, "shuffle", 2, k, MANY[k], 0).due(INVALID, "shuffle", 2, k, -1, 0);
            }
        });
        test("`other`: number of an order of n - k letters", () -> {
            // The least shuffle with the last order is aedcb, abedc, abced or abcde.
            int[] least = {0, 23, 5, 1, 0};
            for (int k = 1; k <= 4; k++) {
                with(5).goes("shuffle", 0, k, 0, 0).due(0, "termOf", 0, 0, 0)
                    .goes("shuffle", 1, k, 0, MANY[5 - k] - 1).due(least[k], "termOf", 1, 0, 0)
                    .due(INVALID, "shuffle", 2, k, 0, MANY[5 - k]).due(INVALID, "shuffle", 2, k, 0, -1);
            }
        });
        test("Returns how many there are", () -> {
            int[][] dues = {{}, {}, {2}, {3, 3}, {4, 6, 4}, {5, 10, 10, 5}};
            for (int n = 2; n <= 5; n++) {
                for (int k = 1; k < n; k++) {
                    int due = dues[n][k - 1];
                    with(n).due(due, "shuffle", 0, k, 0, 0).due(due, "sumOf", 0, 0)
                        .due(due, "shuffle", 0, k, MANY[k] - 1, MANY[n - k] - 1);
                }
            }
        });
        test(EITHER_INVALID, () -> {
            for (int n = 2; n <= 5; n++) {
                for (int k = 1; k < n; k++) {
                    outside(n, "shuffle", args(0, k, 0, 0), SUM, Tried.range(1, n - 1), orders(k), orders(n - k));
                }
            }
            refusesLast(1, "shuffle", args(0, 1, 0, 0), 0);
            refusesLast(1, "shuffle", args(0, 0, 0, 0), 0);
        });
        test("LIMIT_REACHED", () -> {
            // Of the shuffles of a with cb just the last one, cba, is at the bound.
            Tried.refuses(() -> fresh().raise(2, 5, MOST), LIMIT, "shuffle", 2, 1, 0, 1);
            fresh().raise(2, 5, MOST - 1).due(3, "shuffle", 2, 1, 0, 1).due(MOST, "factor", 2, 5);
            fresh().raise(2, 5, MOST).due(3, "shuffle", 2, 1, 0, 0).due(MOST, "factor", 2, 5);
            fresh().raise(2, 5, -MOST).due(3, "shuffle", 2, 1, 0, 1).due(1 - MOST, "factor", 2, 5);
        });
    }

    private static void orderOf() {
        in("Promise 10: orderOf");
        plain("Returns something of an order");
        testEach("`order`: number of the order", n -> with(n).due(1, "orderOf", 0, 10)
            .due(n, "orderOf", MANY[n] - 1, 10).due(INVALID, "orderOf", MANY[n], 10).due(INVALID, "orderOf", -1, 10));
        test("`what`: 0: its descents", () -> {
            // abcde and edcba, then cdbea and the order of one letter.
            int[][] dues = {{0, 0, 0, 0, 0, 0, 5}, {15, 0, 10, 0, 119, 10, 3}, {10, 10, 6, 0, 108, 6, 1}};
            int[] orders = {0, 119, 63};
            for (int i = 0; i < orders.length; i++) {
                for (int what = 0; what <= 6; what++) {
                    with(5).due(dues[i][what], "orderOf", orders[i], what);
                }
            }
            with(1).due(0, "orderOf", 0, 0).due(0, "orderOf", 0, 1).due(0, "orderOf", 0, 2).due(0, "orderOf", 0, 3)
                .due(0, "orderOf", 0, 4).due(0, "orderOf", 0, 5).due(1, "orderOf", 0, 6).due(1, "orderOf", 0, 10);
        });
        testEach("6: how many rings it has", n -> {
            // Each place a ring of its own; all of them one ring, gone through upwards and downwards.
            int[] upwards = {0, 0, 1, 3, 9, 33};
            int[] downwards = {0, 0, 1, 4, 18, 96};
            with(n).due(n, "orderOf", 0, 6).due((n + 1) / 2, "orderOf", MANY[n] - 1, 6)
                .due(1, "orderOf", upwards[n], 6).due(1, "orderOf", downwards[n], 6);
        });
        testEach("10 plus k: the letter at the place k", n -> {
            for (int k = 0; k < n; k++) {
                with(n).due(k + 1, "orderOf", 0, 10 + k).due(n - k, "orderOf", MANY[n] - 1, 10 + k);
            }
        });
        test("Returns the number", () -> with(5).due(15, "orderOf", 119, 0).due(119, "orderOf", 119, 4)
            .due(0, "orderOf", 0, 4).due(0, "orderOf", 0, 0));
        testEach("INVALID_ARGUMENT if an argument is out of range, or k is not below n", n -> {
            outside(n, "orderOf", args(0, 10), orders(n));
            refusesLast(n, "orderOf", args(0, 0), -1, 7, 8, 9, 10 + n, 11 + n, 15, 16, LOW, HIGH);
        });
    }

    private static void product() {
        in("Promise 11: product");
        plain("Returns the number of the product of two orders");
        testEach("`one`: number of the first order", n -> with(n).due(0, "product", 0, 0)
            .due(MANY[n] - 1, "product", MANY[n] - 1, 0).due(INVALID, "product", MANY[n], 0));
        testEach("`other`: number of the second one", n -> with(n).due(MANY[n] - 1, "product", 0, MANY[n] - 1)
            .due(0, "product", MANY[n] - 1, MANY[n] - 1).due(INVALID, "product", 0, MANY[n]));
        test("Returns the number", () -> with(5).due(118, "product", 24, 119).due(113, "product", 119, 6));
        testEach(EITHER_INVALID, n -> outside(n, "product", args(0, 0), orders(n), orders(n)));
    }

    private static void factor() {
        in("Promise 12: factor");
        plain("Returns the factor of an order");
        test("`sum`: 0 to 2", () -> fresh().due(4, "add", 0, 2, 4).due(5, "add", 2, 2, 5).due(4, "factor", 0, 2)
            .due(0, "factor", 1, 2).due(5, "factor", 2, 2));
        testEach("`order`: number of the order", n -> with(n).due(4, "add", 0, MANY[n] - 1, 4)
            .due(4, "factor", 0, MANY[n] - 1).due(n == 1 ? 4 : 0, "factor", 0, 0));
        test("Returns the factor", () -> fresh().due(0, "factor", 0, 0).raise(0, 0, MOST).due(MOST, "factor", 0, 0)
            .raise(0, 5, -MOST).due(-MOST, "factor", 0, 5));
        testEach(EITHER_INVALID, n -> outside(n, "factor", args(0, 0), SUM, orders(n)));
    }

    private static void termOf() {
        in("Promise 13: termOf");
        test("with another factor than 0, by the numbers of orders", () -> {
            Tried x = fresh().due(1, "add", 0, 5, 1).due(-1, "add", 0, 0, -1).due(1, "add", 0, 2, 1);
            x.due(0, "termOf", 0, 0, 0).due(2, "termOf", 0, 1, 0).due(5, "termOf", 0, 2, 0);
            // One that comes to 0 again is left out.
            x.due(0, "add", 0, 0, 1).due(2, "termOf", 0, 0, 0).due(5, "termOf", 0, 1, 0);
            x.due(NOT_FOUND, "termOf", 0, 2, 0);
        });
        test("`sum`: 0 to 2", () -> fresh().due(4, "add", 0, 2, 4).due(5, "add", 2, 3, 5).due(2, "termOf", 0, 0, 0)
            .due(NOT_FOUND, "termOf", 1, 0, 0).due(3, "termOf", 2, 0, 0));
        test("`index`: 0 for the first one, and so on", () -> with(5).due(120, "addClass", 0, 15, 1, 3)
            .due(0, "termOf", 0, 0, 0).due(1, "termOf", 0, 1, 0).due(119, "termOf", 0, 119, 0));
        test("`what`: 0: the number of the order; 1: its factor", () -> fresh().due(-4, "add", 0, 5, -4)
            .due(5, "termOf", 0, 0, 0).due(-4, "termOf", 0, 0, 1));
        test("Returns the number", () -> fresh().raise(1, 0, -MOST).raise(1, 5, MOST).due(0, "termOf", 1, 0, 0)
            .due(-MOST, "termOf", 1, 0, 1).due(5, "termOf", 1, 1, 0).due(MOST, "termOf", 1, 1, 1));
        test("INVALID_ARGUMENT if sum or what is out of range, or index is negative", () -> {
            outside(3, "termOf", args(0, 0, 0), SUM);
            refusesLast(3, "termOf", args(0, 0, 0), -1, 2, LOW, HIGH);
            Tried.refuses(() -> Tried.prepared(3), INVALID, "termOf", 0, -1, 0);
            Tried.refuses(() -> Tried.prepared(3), INVALID, "termOf", 0, LOW, 1);
        });
        test("NOT_FOUND if there are not so many", () -> {
            fresh().due(NOT_FOUND, "termOf", 0, 0, 0).due(1, "add", 0, 5, 1).due(NOT_FOUND, "termOf", 0, 1, 0)
                .due(NOT_FOUND, "termOf", 0, 1, 1).due(NOT_FOUND, "termOf", 0, HIGH, 0);
            with(5).due(120, "addClass", 0, 15, 1, 1).due(NOT_FOUND, "termOf", 0, 120, 1)
                .due(NOT_FOUND, "termOf", 0, HIGH, 1);
        });
    }

    private static void sumOf() {
        in("Promise 14: sumOf");
        plain("Returns something of a sum");
        test("`sum`: 0 to 2", () -> fresh().due(4, "add", 0, 2, 4).due(5, "add", 2, 3, 5).due(4, "sumOf", 0, 1)
            .due(0, "sumOf", 1, 1).due(5, "sumOf", 2, 1));
        test("`what`: 0: how many orders have another factor than 0", () -> {
            fresh().due(0, "sumOf", 0, 0).due(0, "sumOf", 0, 1).due(1, "sumOf", 0, 2).due(0, "sumOf", 0, 3)
                .due(0, "sumOf", 0, 4);
            // The least factor is one of 0 while some order has it, and so is the greatest.
            Tried x = with(2).due(4, "add", 0, 1, 4).due(4, "sumOf", 0, 3).due(0, "sumOf", 0, 4);
            x.due(7, "add", 0, 0, 7).due(7, "sumOf", 0, 3).due(4, "sumOf", 0, 4);
            Tried y = with(2).due(-4, "add", 0, 1, -4).due(0, "sumOf", 0, 3).due(-4, "sumOf", 0, 4);
            y.due(-7, "add", 0, 0, -7).due(-4, "sumOf", 0, 3).due(-7, "sumOf", 0, 4).due(2, "sumOf", 0, 0);
        });
        test("Returns the number", () -> with(5).due(120, "addClass", 0, 15, 1, 500).due(120, "combine", 0, 0, 99, 0, 1)
            .due(120, "sumOf", 0, 0).due(120 * MOST, "sumOf", 0, 1).due(1, "sumOf", 0, 2).due(MOST, "sumOf", 0, 3)
            .due(MOST, "sumOf", 0, 4).due(120, "combine", 0, 0, -1, 0, 0).due(-120 * MOST, "sumOf", 0, 1)
            .due(-MOST, "sumOf", 0, 3).due(-MOST, "sumOf", 0, 4));
        test(EITHER_INVALID, () -> outside(3, "sumOf", args(0, 0), SUM, Tried.range(0, 4)));
    }

    private static void classOf() {
        in("Promise 15: classOf");
        plain("Returns the factor of a class in a sum that goes by descents");
        test("`sum`: 0 to 2", () -> fresh().due(4, "add", 0, 0, 4).due(5, "add", 2, 0, 5).due(4, "classOf", 0, 0, 0)
            .due(0, "classOf", 1, 0, 0).due(5, "classOf", 2, 0, 0));
        testEach("`set`: a set of descents", n -> with(n).due(1, "addClass", 0, 0, 0, 4)
            .due(1, "addClass", 0, lastSet(n), 0, 6).due(n == 1 ? 10 : 4, "classOf", 0, 0, 0)
            .due(n == 1 ? 10 : 6, "classOf", 0, lastSet(n), 0));
        testEach("`wide`: 0: as a sum of multiples of classes; 1: of wide classes", n -> {
            // The whole wide class is each class once; the class of no descent has changing signs.
            Tried x = with(n).due(MANY[n], "addClass", 0, lastSet(n), 1, 1).due(1, "addClass", 1, lastSet(n), 0, 1);
            for (int set = 0; set <= lastSet(n); set++) {
                int sign = Integer.bitCount(lastSet(n) & ~set) % 2 == 0 ? 1 : -1;
                x.due(1, "classOf", 0, set, 0).due(set == lastSet(n) ? 1 : 0, "classOf", 0, set, 1);
                x.due(set == lastSet(n) ? 1 : 0, "classOf", 1, set, 0).due(sign, "classOf", 1, set, 1);
            }
        });
        test("Returns the factor", () -> {
            // As many bounds as there are classes, with the signs that make them all one way.
            Tried x = with(5);
            for (int set = 0; set < 16; set++) {
                x.goes("addClass", 0, set, 0, Integer.bitCount(set) % 2 == 0 ? 500 : -500);
            }
            x.due(120, "combine", 0, 0, 99, 0, 1).due(MOST, "classOf", 0, 0, 0).due(-MOST, "classOf", 0, 1, 0);
            x.due(16 * MOST, "classOf", 0, 0, 1).due(-8 * MOST, "classOf", 0, 1, 1).due(MOST, "classOf", 0, 15, 1);
            fresh().due(0, "classOf", 0, 0, 0).due(0, "classOf", 0, 3, 1);
        });
        testEach(EITHER_INVALID, n -> outside(n, "classOf", args(0, 0, 0), SUM, sets(n), CHOICE));
        test("NOT_FOUND if the sum does not go by descents", () -> {
            fresh().due(6, "addClass", 0, 3, 1, 1).due(2, "add", 0, 4, 1).due(NOT_FOUND, "classOf", 0, 0, 0)
                .due(NOT_FOUND, "classOf", 0, 3, 1).due(2, "add", 0, 2, 1).due(1, "classOf", 0, 0, 0)
                .due(2, "classOf", 0, 1, 0);
            with(2).due(1, "add", 0, 0, 1).due(0, "classOf", 0, 1, 0).due(1, "classOf", 0, 0, 1);
            with(1).due(1, "add", 0, 0, 1).due(1, "classOf", 0, 0, 0).due(1, "classOf", 0, 0, 1);
        });
    }

    private static void peakSum() {
        in("Promise 16: peakSum");
        plain("Adds up the factors of all orders with certain peaks");
        test("`sum`: 0 to 2", () -> fresh().due(4, "add", 0, 1, 4).due(5, "add", 2, 1, 5).due(4, "peakSum", 0, 2)
            .due(0, "peakSum", 1, 2).due(5, "peakSum", 2, 2));
        testEach("`peaks`: a set of places 0 to n - 1", n -> with(n).due(0, "peakSum", 0, 0)
            .due(NOT_FOUND, "peakSum", 0, 1).due(NOT_FOUND, "peakSum", 0, (1 << n) - 1)
            .due(NOT_FOUND, "peakSum", 0, 1 << (n - 1)).due(INVALID, "peakSum", 0, 1 << n));
        test("Returns the sum", () -> {
            with(5).due(120, "addClass", 0, 15, 1, 500).due(120, "combine", 0, 0, 99, 0, 1)
                .due(40 * MOST, "peakSum", 0, 4).due(16 * MOST, "peakSum", 0, 10)
                .due(120, "combine", 0, 0, -1, 0, 0).due(-40 * MOST, "peakSum", 0, 4);
            // No peaks: abc, bac, cab and cba.
            fresh().due(6, "addClass", 0, 3, 1, 1).due(4, "peakSum", 0, 0).due(2, "peakSum", 0, 2);
            with(1).due(7, "add", 0, 0, 7).due(7, "peakSum", 0, 0);
        });
        testEach(EITHER_INVALID, n -> outside(n, "peakSum", args(0, 0), SUM, Tried.range(0, (1 << n) - 1)));
        test("NOT_FOUND if there is no order with just these peaks", () -> {
            // The sets 0, 2, 4, 8 and 10 alone are the peaks of orders of 5 letters, whatever factors they have.
            for (int peaks = 0; peaks < 32; peaks++) {
                boolean stands = peaks == 0 || peaks == 2 || peaks == 4 || peaks == 8 || peaks == 10;
                with(5).due(stands ? 0 : NOT_FOUND, "peakSum", 0, peaks).due(120, "addClass", 0, 15, 1, 0)
                    .due(stands ? 0 : NOT_FOUND, "peakSum", 0, peaks);
            }
        });
    }

    private static void square() {
        in("Promise 17: square");
        test("(also if that is beyond the bounds of factors)", () -> {
            Tried x = with(5).due(120, "addClass", 0, 15, 1, 500).due(120, "combine", 0, 0, 99, 0, 1);
            x.due(120 * MOST, "square", 0).due(LIMIT, "multiply", 0, 0, 0);
            x.due(120, "combine", 0, 0, -1, 0, 0).due(-120 * MOST, "square", 0);
            with(1).raise(0, 0, MOST).due(MOST, "square", 0).raise(0, 0, -MOST).due(-MOST, "square", 0);
        });
        test("`sum`: 0 to 2", () -> fresh().due(4, "add", 0, 0, 4).due(5, "add", 2, 0, 5).due(4, "square", 0)
            .due(NOT_FOUND, "square", 1).due(5, "square", 2));
        test("Returns the factor", () -> {
            // 1 - acb: 2; acb - bca + cab - cba: 0, which is a multiple too; cab alone has none.
            fresh().due(1, "add", 0, 0, 1).due(-1, "add", 0, 1, -1).due(2, "square", 0);
            fresh().due(1, "add", 0, 1, 1).due(-1, "add", 0, 3, -1).due(1, "add", 0, 4, 1).due(-1, "add", 0, 5, -1)
                .due(0, "square", 0).due(0, "multiply", 0, 0, 0).due(NOT_FOUND, "square", 0);
            fresh().due(1, "add", 0, 0, 1).due(1, "square", 0).due(0, "add", 0, 0, -1).due(-1, "add", 0, 0, -1)
                .due(-1, "square", 0);
        });
        test(SUM_INVALID, () -> outside(3, "square", args(0), SUM));
        test("NOT_FOUND if its square is no multiple of it by a whole number", () -> {
            // 2 + acb: 5 + 4 acb, of which 2 goes into neither way; acb: its square stands at abc.
            fresh().due(2, "add", 0, 0, 2).due(1, "add", 0, 1, 1).due(NOT_FOUND, "square", 0);
            fresh().due(1, "add", 0, 0, 1).due(2, "add", 0, 1, 2).due(NOT_FOUND, "square", 0);
            fresh().due(1, "add", 0, 1, 1).due(NOT_FOUND, "square", 0);
            fresh().due(1, "add", 0, 4, 1).due(NOT_FOUND, "square", 0);
            // 2 + 3 cab + 3 bca: 22 at the first, 21 at the others.
            fresh().due(2, "add", 0, 0, 2).due(3, "add", 0, 3, 3).due(3, "add", 0, 4, 3).due(NOT_FOUND, "square", 0);
        });
        testEach("or all its factors are 0", n -> with(n).due(NOT_FOUND, "square", 0)
            .due(1, "add", 0, MANY[n] - 1, 1).due(1, "clear", 0).due(NOT_FOUND, "square", 0));
    }

    /** The sets p and q, which both ways to multiply classes have. */
    private static void classesToMultiply(String name) {
        testEach("`p`: a set of descents: the first wide class", n -> {
            int all = lastSet(n);
            with(n).due(1, name, 0, all, all).due(MANY[n], name, all, all, all).due(INVALID, name, all + 1, 0, 0);
        });
        testEach("`q`: a set of descents: the second one", n -> {
            int all = lastSet(n);
            with(n).due(1, name, all, 0, all).due(MANY[n], name, all, all, all).due(INVALID, name, 0, all + 1, 0);
        });
    }

    private static void byOrders() {
        in("Promise 18: byOrders");
        plain("Returns how often a wide class is in the product of two wide classes, by orders");
        classesToMultiply("byOrders");
        testEach("`r`: a set of descents: the one that is looked for", n -> {
            int all = lastSet(n);
            with(n).due(1, "byOrders", 0, 0, 0).due(n == 1 ? 1 : 0, "byOrders", 0, 0, all)
                .due(n == 1 ? 1 : 0, "byOrders", all, all, 0).due(INVALID, "byOrders", 0, 0, all + 1)
                .due(INVALID, "byOrders", 0, 0, -1);
        });
        testEach("Returns how often", n -> {
            for (int set = 0; set <= lastSet(n); set++) {
                for (int r = 0; r <= lastSet(n); r++) {
                    with(n).due(r == set ? 1 : 0, "byOrders", 0, set, r).due(r == set ? 1 : 0, "byOrders", set, 0, r);
                }
            }
        });
        testEach(EITHER_INVALID, n -> outside(n, "byOrders", args(0, 0, 0), sets(n), sets(n), sets(n)));
    }

    private static void byTables() {
        in("Promise 19: byTables");
        plain("Counts the tables that tell a set, for the product of two wide classes");
        classesToMultiply("byTables");
        testEach("the one that the tables tell; -1: all tables", n -> {
            int all = lastSet(n);
            with(n).due(1, "byTables", 0, 0, 0).due(n == 1 ? 1 : 0, "byTables", all, all, 0)
                .due(1, "byTables", 0, 0, -1).due(MANY[n], "byTables", all, all, -1)
                .due(INVALID, "byTables", 0, 0, all + 1).due(INVALID, "byTables", 0, 0, -2);
        });
        testEach("Returns how many", n -> {
            for (int p = 0; p <= lastSet(n); p++) {
                for (int q = 0; q <= lastSet(n); q++) {
                    Tried x = with(n);
                    int total = 0;
                    for (int r = 0; r <= lastSet(n); r++) {
                        int due = x.answer("byOrders", p, q, r);
                        x.due(due, "byTables", p, q, r);
                        total += due;
                    }
                    x.due(total, "byTables", p, q, -1);
                }
            }
        });
        testEach(EITHER_INVALID, n -> outside(n, "byTables", args(0, 0, 0), sets(n), sets(n),
            Tried.range(-1, lastSet(n))));
    }

    private static void count() {
        in("Promise 20: count");
        plain("Returns a number");
        testEach("`what`: 0: n; 1: orders; 2: states in the history; 3: the length of the text", n -> {
            Tried x = with(n).due(n, "count", 0).due(MANY[n], "count", 1).due(1, "count", 2).due(0, "count", 3);
            x.types("?".repeat(60)).due(60, "count", 3).due(n, "count", 0);
            for (int states = 2; states <= 6; states++) {
                x.due(0, "clear", 0).due(Math.min(states, 4), "count", 2);
            }
        });
        test("Returns the number", () -> fresh().due(3, "count", 0).due(6, "count", 1).due(0, "count", 2)
            .due(0, "count", 3).due(120, "begin", 5).due(120, "count", 1).due(1, "begin", 1).due(1, "count", 1));
        test("INVALID_ARGUMENT if what is out of range", () -> outside(3, "count", args(0), Tried.range(0, 3)));
    }

    private static void undo() {
        in("Promise 21: undo");
        test("Restores the latest state of the history, which is removed from it", () -> {
            Tried x = fresh().due(1, "add", 0, 0, 1).due(24, "begin", 4).due(2, "add", 1, 23, 2).due(1, "clear", 1);
            x.due(3, "undo").due(2, "factor", 1, 23).due(3, "count", 2);
            x.due(2, "undo").due(0, "factor", 1, 23).due(4, "count", 0).due(2, "count", 2);
            x.due(1, "undo").due(3, "count", 0).due(1, "factor", 0, 0).due(INVALID, "factor", 1, 23);
            x.due(0, "undo").due(0, "factor", 0, 0).due(NOT_POSSIBLE, "undo");
            // What was undone can't come back, and a change after it starts from what was restored.
            x.due(5, "add", 0, 0, 5).due(1, "count", 2).due(0, "undo").due(0, "factor", 0, 0);
        });
        test("Returns the number of states that are left in the history", () -> {
            for (int changes = 1; changes <= 6; changes++) {
                Tried x = fresh();
                for (int i = 0; i < changes; i++) {
                    x.goes("turn", 0, 0);
                }
                x.due(Math.min(changes, 4) - 1, "undo").due(Math.min(changes, 4) - 1, "count", 2);
            }
        });
        test("NOT_POSSIBLE if it is empty", () -> {
            fresh().due(NOT_POSSIBLE, "undo").types("abc").due(NOT_POSSIBLE, "undo").due(INVALID, "add", 0, 6, 1)
                .due(NOT_POSSIBLE, "undo").due(1, "add", 0, 0, 1).due(0, "undo").due(NOT_POSSIBLE, "undo")
                .due(NOT_POSSIBLE, "undo").due(0, "count", 2).due(3, "count", 0);
        });
    }

    private static void type() {
        in("Promise 22: type");
        plain("Appends a character to the text");
        test("`character`: 32 to 126", () -> {
            Tried x = fresh();
            for (int character = 32; character <= 126; character++) {
                x.due(1, "type", character).due(1, "clearText");
            }
        });
        test("Returns the length of the text", () -> {
            Tried x = fresh();
            for (int length = 1; length <= 60; length++) {
                x.due(length, "type", 32 + length).due(length, "count", 3);
            }
        });
        test("INVALID_ARGUMENT if character is out of range", () -> {
            outside(3, "type", args('a'), Tried.range(32, 126));
            // Those that would be an a or a sign if just their last bits counted.
            refusesLast(3, "type", args('a'), 0, 10, 128, 255, 97 + 256, 97 + 65536, 97 - 256);
        });
        test("LIMIT_REACHED if it has 60 characters", () -> {
            Tried.refuses(() -> fresh().types("a+".repeat(30)), LIMIT, "type", 'a');
            fresh().types("a".repeat(59)).due(60, "type", 'a').due(LIMIT, "type", 'a').due(60, "clearText")
                .due(1, "type", 'a');
        });
    }

    private static void clearText() {
        in("Promise 23: clearText");
        test("Empties the text", () -> with(1).types("b").due(1, "clearText").due(0, "count", 3).due(0, "fault")
            .due(NOT_POSSIBLE, "read", 0).types("a").due(NOT_FOUND, "fault").due(1, "count", 2));
        test("Returns the length it had", () -> fresh().due(0, "clearText").types("a".repeat(60)).due(60, "clearText")
            .due(0, "clearText").types("?").due(1, "clearText"));
    }

    private static void fault() {
        in("Promise 24: fault");
        plain("Finds the fault of the text");
        test("Returns its index", () -> {
            fresh().due(0, "fault").types("?").due(0, "fault").retypes("abc?").due(3, "fault").retypes("ab")
                .due(2, "fault").types("c+").due(4, "fault");
            with(1).types("a-".repeat(30)).due(60, "fault").due(LIMIT, "type", 'a').due(60, "fault");
            with(1).types("a-".repeat(29) + "a").due(NOT_FOUND, "fault").due(60, "type", '*').due(59, "fault");
        });
        test("NOT_FOUND if the text has no fault", () -> {
            fresh().types("abc").due(NOT_FOUND, "fault").retypes("-999*cba+1*abc-10*bca").due(NOT_FOUND, "fault");
            // Another n makes another fault of the same text.
            fresh().types("abc").due(24, "begin", 4).due(3, "fault").due(2, "begin", 2).due(2, "fault").due(1, "undo")
                .due(0, "undo").due(NOT_FOUND, "fault");
        });
    }

    private static void read() {
        in("Promise 25: read");
        test("Adds the sum of the text, which stays, to a sum", () -> {
            Tried x = fresh().due(5, "add", 0, 0, 5).types("-5*abc+cba").due(2, "read", 0).due(0, "factor", 0, 0);
            x.due(1, "factor", 0, 5).due(10, "count", 3);
            x.due(2, "read", 0).due(-5, "factor", 0, 0).due(2, "factor", 0, 5);
            x.types("-2*cba").due(3, "read", 1).due(-1, "factor", 1, 5).due(3, "undo").due(16, "count", 3);
        });
        test("`sum`: 0 to 2", () -> fresh().types("acb").due(1, "read", 0).due(1, "read", 2).due(1, "factor", 0, 1)
            .due(0, "factor", 1, 1).due(1, "factor", 2, 1));
        test("Returns how many terms it has", () -> {
            fresh().types("abc").due(1, "read", 0).retypes("-abc").due(1, "read", 0)
                .types("+abc-abc").due(3, "read", 0);
            with(1).types("a+".repeat(29) + "a").due(30, "read", 0).due(30, "factor", 0, 0);
        });
        test(SUM_INVALID, () -> {
            outside(3, "read", args(0), SUM);
            fresh().due(INVALID, "read", 3).due(INVALID, "read", -1).due(NOT_POSSIBLE, "read", 2);
        });
        test("NOT_POSSIBLE if the text has a fault", () -> {
            for (String text : new String[] {"", "-", "ab", "abc+", "abcd", "0*abc", "+abc", "abc?", "?", "1000*abc"}) {
                Tried.refuses(() -> fresh().due(5, "add", 0, 0, 5).types(text), NOT_POSSIBLE, "read", 0);
            }
        });
        test("LIMIT_REACHED", () -> {
            Tried.refuses(() -> with(2).raise(1, 1, MOST - 998).types("999*ba"), LIMIT, "read", 1);
            Tried.refuses(() -> with(2).raise(1, 1, 998 - MOST).types("ab-999*ba"), LIMIT, "read", 1);
            Tried.refuses(() -> with(2).raise(1, 1, MOST).types("ab+ba-ab"), LIMIT, "read", 1);
            with(2).raise(1, 1, MOST - 999).types("999*ba").due(1, "read", 1).due(MOST, "factor", 1, 1)
                .due(1, "read", 0).retypes("ba-ba").due(2, "read", 1).due(MOST, "factor", 1, 1);
            with(2).raise(1, 1, 999 - MOST).types("-999*ba").due(1, "read", 1).due(-MOST, "factor", 1, 1);
        });
    }

    public static void main(String[] arguments) {
        newObject();
        begin();
        add();
        addClass();
        clear();
        multiply();
        combine();
        turn();
        shuffle();
        orderOf();
        product();
        factor();
        termOf();
        sumOf();
        classOf();
        peakSum();
        square();
        byOrders();
        byTables();
        count();
        undo();
        type();
        clearText();
        fault();
        read();
        DOCUMENT.finish();
    }
}
