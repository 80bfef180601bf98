import java.util.function.Supplier;

/** A test of its own for each sentence of "What it is" and "Terms" that names a boundary case. */
public final class TermsTest {
    private static final int INVALID = Tried.INVALID;
    private static final int NOT_POSSIBLE = Tried.NOT_POSSIBLE;
    private static final int LIMIT = Tried.LIMIT;
    private static final int NOT_FOUND = Tried.NOT_FOUND;
    private static final int[] MANY = Tried.MANY;
    private static final int MOST = 50000;

    private static final Sentences DOCUMENT = new Sentences();

    private static void lastCall() {
        Tried x = Tried.with(5);
        for (int i = 1; i <= 506; i++) {
            x.due(i, "add", 2, 119, 1);
        }
        x.due(4, "count", 2).due(3, "undo").due(505, "factor", 2, 119);
        x.due(5, "shuffle", 0, 1, 0, 23).due(5, "sumOf", 0, 0);
    }

    private static void setsAsBits() {
        // The first place alone, the last one that can be a descent alone, and both.
        Tried.with(5).due(1, "orderOf", 24, 0).due(8, "orderOf", 1, 0).due(9, "orderOf", 25, 0);
        Tried.with(2).due(1, "orderOf", 1, 0);
    }

    private static void lettersOfOrders() {
        for (int n = 1; n <= 5; n++) {
            for (int order = 0; order < MANY[n]; order++) {
                Tried x = Tried.with(n);
                int seen = 0;
                for (int place = 0; place < n; place++) {
                    seen |= 1 << x.answer("orderOf", order, 10 + place);
                }
                Tried.check(seen == (2 << n) - 2, n + " letters: order " + order + " has the letters " + seen);
                x.due(INVALID, "orderOf", order, 10 + n).due(INVALID, "orderOf", order, 9);
            }
        }
    }

    private static int spelled(int n, int order) {
        Tried x = Tried.with(n);
        int word = 0;
        for (int place = 0; place < n; place++) {
            word = 10 * word + x.answer("orderOf", order, 10 + place);
        }
        return word;
    }

    private static void dictionary() {
        int[] firsts = {0, 1, 12, 123, 1234, 12345};
        int[] lasts = {0, 1, 21, 321, 4321, 54321};
        for (int n = 1; n <= 5; n++) {
            Tried.check(spelled(n, 0) == firsts[n], "the first order of " + n);
            Tried.check(spelled(n, MANY[n] - 1) == lasts[n], "the last order of " + n);
            for (int order = 1; order < MANY[n]; order++) {
                Tried.check(spelled(n, order - 1) < spelled(n, order), n + " letters: order " + order);
            }
        }
    }

    private static void descents() {
        int[] all = {0, 0, 1, 3, 7, 15};
        for (int n = 1; n <= 5; n++) {
            Tried.with(n).due(0, "orderOf", 0, 0).due(all[n], "orderOf", MANY[n] - 1, 0);
        }
        // bacd and abdc: at the place 0 and at n - 2, the last one that has a next one.
        Tried.with(4).due(1, "orderOf", 6, 0).due(4, "orderOf", 1, 0);
    }

    private static void peaks() {
        for (int n = 1; n <= 5; n++) {
            // The greatest letter at the last place or at the first one is no peak.
            Tried.with(n).due(0, "orderOf", 0, 1).due(0, "orderOf", MANY[n] - 1, 1);
        }
        // acb; cab, whose c has just one neighbour; abdc and adcb: the places n - 2 and 1.
        Tried.with(3).due(2, "orderOf", 1, 1).due(0, "orderOf", 4, 1);
        Tried.with(4).due(4, "orderOf", 1, 1).due(2, "orderOf", 5, 1);
        // badce has a descent at 0 and at 2, and just the second one is a peak; acbed has the peaks 1 and 3.
        Tried.with(5).due(4, "orderOf", 26, 1).due(10, "orderOf", 7, 1);
    }

    private static void inversions() {
        int[] most = {0, 0, 1, 3, 6, 10};
        for (int n = 1; n <= 5; n++) {
            Tried.with(n).due(0, "orderOf", 0, 2).due(most[n], "orderOf", MANY[n] - 1, 2);
        }
        // eabcd and abced: pairs far apart, and the last pair.
        Tried.with(5).due(4, "orderOf", 96, 2).due(1, "orderOf", 1, 2);
    }

    private static void parity() {
        int[] lasts = {0, 0, 1, 1, 0, 0};
        for (int n = 1; n <= 5; n++) {
            Tried.with(n).due(0, "orderOf", 0, 3).due(lasts[n], "orderOf", MANY[n] - 1, 3);
        }
    }

    private static void inverses() {
        for (int n = 1; n <= 5; n++) {
            Tried.with(n).due(0, "orderOf", 0, 4).due(MANY[n] - 1, "orderOf", MANY[n] - 1, 4);
            for (int order = 0; order < MANY[n]; order++) {
                Tried x = Tried.with(n);
                int inverse = x.answer("orderOf", order, 4);
                for (int place = 0; place < n; place++) {
                    int letter = x.answer("orderOf", order, 10 + place);
                    x.due(place + 1, "orderOf", inverse, 10 + letter - 1);
                }
            }
        }
    }

    private static void products() {
        for (int n = 1; n <= 5; n++) {
            int last = MANY[n] - 1;
            for (int order = 0; order <= last; order++) {
                Tried x = Tried.with(n).due(order, "product", 0, order).due(order, "product", order, 0);
                int backwards = x.answer("product", order, last);
                int exchanged = x.answer("product", last, order);
                for (int place = 0; place < n; place++) {
                    int letter = x.answer("orderOf", order, 10 + place);
                    x.due(letter, "orderOf", backwards, 10 + n - 1 - place);
                    x.due(n + 1 - letter, "orderOf", exchanged, 10 + place);
                }
            }
        }
    }

    private static void orders() {
        DOCUMENT.in("Orders");
        DOCUMENT.test("An order of n letters (1 to 5)", TermsTest::lettersOfOrders);
        DOCUMENT.test("numbered from 0 as in a dictionary", TermsTest::dictionary);
        DOCUMENT.test("A descent of an order is a place k, from 0 to n - 2", TermsTest::descents);
        DOCUMENT.test("A peak is a place k, from 1 to n - 2", TermsTest::peaks);
        DOCUMENT.test("An inversion is a pair of places", TermsTest::inversions);
        DOCUMENT.test("The parity is the number of inversions modulo 2", TermsTest::parity);
        DOCUMENT.test("(less 1) the place (plus 1) of this letter", TermsTest::inverses);
        DOCUMENT.test("which the letter of v at this place tells (less 1)", TermsTest::products);
    }

    private static void threeSums() {
        Tried x = Tried.fresh().due(INVALID, "sumOf", -1, 0).due(INVALID, "sumOf", 3, 0);
        for (int sum = 0; sum < 3; sum++) {
            for (int order = 0; order < 6; order++) {
                x.due(0, "factor", sum, order);
            }
            x.due(sum + 1, "add", sum, 5, sum + 1);
        }
        for (int sum = 0; sum < 3; sum++) {
            x.due(sum + 1, "factor", sum, 5).due(1, "sumOf", sum, 0);
        }
    }

    private static void sameLetters() {
        Tried x = Tried.fresh().due(3, "count", 0).due(6, "count", 1);
        for (int n = 1; n <= 5; n++) {
            x.due(MANY[n], "begin", n);
            for (int sum = 0; sum < 3; sum++) {
                x.due(0, "factor", sum, MANY[n] - 1).due(INVALID, "factor", sum, MANY[n]);
            }
        }
    }

    private static void boundsOfFactors() {
        for (int sign = -1; sign <= 1; sign += 2) {
            int bound = sign * MOST;
            Tried x = Tried.with(1).raise(0, 0, bound).due(bound, "factor", 0, 0);
            x.due(LIMIT, "add", 0, 0, sign).due(LIMIT, "addClass", 0, 0, 1, sign).due(bound, "factor", 0, 0);
            // 99 times and -98 times the bound are beyond it, what they come to is not.
            x.due(1, "combine", 0, 0, 99, 0, -98).due(bound, "factor", 0, 0);
            x.due(LIMIT, "combine", 0, 0, 99, 0, -97).due(bound, "factor", 0, 0);
        }
    }

    private static void beyondBetween() {
        // Each product of factors is beyond the bounds; those for one order come to 0.
        Tried.with(2).raise(0, 0, 900).raise(0, 1, 900).raise(1, 0, 900).raise(1, 1, -900)
            .due(0, "multiply", 2, 0, 1).due(0, "multiply", 0, 1, 0).due(0, "sumOf", 0, 0);
        Tried.with(1).raise(0, 0, 49500).types("999*a+1*a-500*a").due(3, "read", 0).due(MOST, "factor", 0, 0);
        Tried.with(1).raise(0, 0, -49500).types("-999*a+499*a").due(2, "read", 0).due(-MOST, "factor", 0, 0);
    }

    private static Tried twoEqual(int one, int other) {
        Tried x = Tried.with(2);
        return x.raise(0, 0, one).raise(0, 1, one).raise(1, 0, other).raise(1, 1, other);
    }

    private static void exactly() {
        // 2 * 45000 * 47722 is 12704 more than 2 to the power of 32, and 2 * 250 * 100 just at the bound.
        Tried.refuses(() -> twoEqual(45000, 47722), LIMIT, "multiply", 2, 0, 1);
        Tried.refuses(() -> twoEqual(45000, -47722), LIMIT, "multiply", 2, 0, 1);
        twoEqual(250, 100).due(2, "multiply", 2, 0, 1).due(MOST, "factor", 2, 0).due(MOST, "factor", 2, 1);
    }

    private static void sums() {
        DOCUMENT.in("Sums");
        DOCUMENT.test("There are three sums, 0 to 2", TermsTest::threeSums);
        DOCUMENT.test("n is the same for all (3 at first)", TermsTest::sameLetters);
        DOCUMENT.test("Factors are from -50000 to 50000", TermsTest::boundsOfFactors);
        DOCUMENT.test("(what comes between does not matter)", TermsTest::beyondBetween);
        DOCUMENT.test("(all added up exactly)", TermsTest::exactly);
    }

    private static void setsOfDescents() {
        for (int n = 1; n <= 5; n++) {
            int sets = 1 << (n - 1);
            Tried x = Tried.with(n);
            for (int good : new int[] {0, sets - 1}) {
                x.goes("addClass", 0, good, 0, 1).goes("classOf", 0, good, 0);
                x.goes("byOrders", good, good, good).goes("byTables", good, good, good);
            }
            for (int bad : new int[] {-1, sets}) {
                x.due(INVALID, "addClass", 0, bad, 0, 1).due(INVALID, "classOf", 0, bad, 0);
                x.due(INVALID, "byOrders", bad, 0, 0).due(INVALID, "byTables", bad, 0, 0);
            }
        }
    }

    private static void classesAtTheEnds() {
        for (int n = 1; n <= 5; n++) {
            int all = (1 << (n - 1)) - 1;
            int last = MANY[n] - 1;
            // Nothing is within the empty set but itself, and everything within the whole one.
            Tried.with(n).due(1, "addClass", 0, 0, 0, 1).due(1, "factor", 0, 0).due(1, "sumOf", 0, 0)
                .due(1, "addClass", 1, 0, 1, 1).due(1, "factor", 1, 0).due(1, "sumOf", 1, 0);
            Tried.with(n).due(1, "addClass", 0, all, 0, 1).due(1, "factor", 0, last).due(1, "sumOf", 0, 0)
                .due(MANY[n], "addClass", 1, all, 1, 1).due(MANY[n], "sumOf", 1, 0).due(1, "sumOf", 1, 4);
        }
    }

    private static void goingByDescents() {
        Tried.fresh().due(1, "sumOf", 0, 2);
        Tried.with(1).due(7, "add", 0, 0, 7).due(1, "sumOf", 0, 2);
        Tried.with(2).due(7, "add", 0, 0, 7).due(-3, "add", 0, 1, -3).due(1, "sumOf", 0, 2);
        // acb and bca have the same descents, so have bac and cab; abc and cba are alone with theirs.
        int[] alone = {1, 0, 0, 0, 0, 1};
        for (int order = 0; order < 6; order++) {
            Tried.fresh().due(1, "add", 0, order, 1).due(alone[order], "sumOf", 0, 2);
        }
    }

    private static void justOneWay() {
        for (int n = 1; n <= 5; n++) {
            int sets = 1 << (n - 1);
            Tried x = Tried.with(n);
            for (int set = 0; set < sets; set++) {
                x.goes("addClass", 0, set, 1, 3 * set - 20);
            }
            for (int set = 0; set < sets; set++) {
                x.due(3 * set - 20, "classOf", 0, set, 1);
                x.goes("addClass", 1, set, 0, x.answer("classOf", 0, set, 0));
            }
            x.due(0, "combine", 2, 0, 1, 1, -1);
        }
    }

    private static void parts() {
        for (int n = 1; n <= 5; n++) {
            int sets = 1 << (n - 1);
            for (int set = 0; set < sets; set++) {
                // One column: each row has just its part, the whole set has n parts 1, the empty one a part n.
                Tried x = Tried.with(n).due(1, "byTables", 0, set, -1);
                for (int other = 0; other < sets; other++) {
                    x.due(other == set ? 1 : 0, "byTables", 0, set, other);
                }
            }
        }
    }

    private static void classes() {
        DOCUMENT.in("Classes");
        DOCUMENT.test("A set of descents is a set of places 0 to n - 2", TermsTest::setsOfDescents);
        DOCUMENT.test("whose descents are within this set", TermsTest::classesAtTheEnds);
        DOCUMENT.test("the same factor to any two orders with the same descents", TermsTest::goingByDescents);
        DOCUMENT.test("in just one way by a factor for each wide class", TermsTest::justOneWay);
        DOCUMENT.test("The parts of a set of descents", TermsTest::parts);
    }

    private static void productsOfClasses() {
        for (int n = 1; n <= 5; n++) {
            for (int p = 0; p < 1 << (n - 1); p++) {
                for (int q = 0; q < 1 << (n - 1); q++) {
                    Tried.with(n).goes("addClass", 0, p, 1, 1).goes("addClass", 1, q, 1, 1)
                        .goes("multiply", 2, 0, 1).due(1, "sumOf", 2, 2);
                }
            }
        }
    }

    private static void rowsAndColumns() {
        // Rows 1 and 2, columns 2 and 1: two tables, of which one has a 0.
        Tried.with(3).due(2, "byTables", 2, 1, -1).due(1, "byTables", 2, 1, 1).due(1, "byTables", 2, 1, 3);
        // Rows 2 and 1, columns 1 and 2.
        Tried.with(3).due(2, "byTables", 1, 2, -1).due(1, "byTables", 1, 2, 2).due(1, "byTables", 1, 2, 3);
        // Five rows and five columns: a 1 and four zeros in each; one row, one column: no zeros.
        Tried.with(5).due(120, "byTables", 15, 15, -1).due(1, "byTables", 15, 0, -1).due(1, "byTables", 0, 15, -1);
        Tried.with(1).due(1, "byTables", 0, 0, -1);
    }

    private static void withoutZeros() {
        // Two rows of 2 and two columns of 2: 2 0 0 2, 1 1 1 1 and 0 2 2 0.
        Tried.with(4).due(2, "byTables", 2, 2, 2).due(1, "byTables", 2, 2, 7).due(0, "byTables", 2, 2, 0);
        // Rows 4 and 1, columns 1 and 4: 0 4 1 0 and 1 3 0 1; the zeros cut nowhere.
        Tried.with(5).due(1, "byTables", 1, 8, 8).due(1, "byTables", 1, 8, 9).due(2, "byTables", 1, 8, -1);
    }

    private static void tables() {
        DOCUMENT.in("Tables");
        DOCUMENT.test("The product of the wide class of a set p and that of a set q", TermsTest::productsOfClasses);
        DOCUMENT.test("with numbers of 0 or more", TermsTest::rowsAndColumns);
        DOCUMENT.test("from left to right, without zeros", TermsTest::withoutZeros);
    }

    private static void textsLength() {
        Tried x = Tried.fresh().due(0, "count", 3).due(0, "fault");
        for (int i = 1; i <= 60; i++) {
            x.due(i, "type", 'a');
        }
        x.due(LIMIT, "type", 'a').due(60, "count", 3).due(60, "clearText").due(1, "type", 'a');
    }

    /** A text that is typed while orders have n letters. */
    private static void faultIs(int want, int n, String text) {
        Tried.with(n).types(text).due(want, "fault");
    }

    private static void oneOrMoreTerms() {
        faultIs(0, 3, "");
        faultIs(NOT_FOUND, 3, "abc");
        faultIs(NOT_FOUND, 3, "abc+abc");
        Tried.with(1).types("-" + "a+".repeat(29) + "a").due(60, "count", 3).due(30, "read", 0)
            .due(28, "factor", 0, 0);
        Tried.with(5).types("abcde+".repeat(10)).due(60, "fault").due(NOT_POSSIBLE, "read", 0);
    }

    private static void signAheadOfTheFirst() {
        faultIs(NOT_FOUND, 2, "-ab");
        faultIs(0, 2, "+ab");
        faultIs(1, 2, "--ab");
        faultIs(1, 2, "-+ab");
        faultIs(1, 2, "-");
    }

    private static void signAheadOfTheOthers() {
        faultIs(NOT_FOUND, 2, "ab+ba");
        faultIs(NOT_FOUND, 2, "ab-ba");
        faultIs(2, 2, "abba");
        faultIs(2, 2, "ab2*ba");
        faultIs(3, 2, "ab+-ba");
        faultIs(3, 2, "ab--ba");
        faultIs(3, 2, "ab+");
        faultIs(1, 2, "a+b");
        faultIs(1, 2, "2+ab");
        faultIs(2, 2, "2*+ab");
    }

    private static void numbersOfTerms() {
        faultIs(NOT_FOUND, 2, "1*ab");
        faultIs(NOT_FOUND, 2, "10*ab");
        faultIs(NOT_FOUND, 2, "999*ab");
        faultIs(3, 2, "1000*ab");
        faultIs(0, 2, "0*ab");
        faultIs(0, 2, "01*ab");
        faultIs(1, 2, "-0*ab");
        faultIs(3, 2, "ab-0*ab");
        faultIs(7, 2, "ab-999*0");
        faultIs(2, 2, "9*9*ab");
    }

    private static void stars() {
        faultIs(0, 2, "*ab");
        faultIs(1, 2, "2ab");
        faultIs(3, 2, "999ab");
        faultIs(2, 2, "2**ab");
        faultIs(2, 2, "2*");
        faultIs(1, 2, "2");
        faultIs(1, 2, "a*b");
        faultIs(2, 2, "ab*");
    }

    private static void lettersOfTerms() {
        String letters = "abcdef";
        for (int n = 1; n <= 5; n++) {
            String whole = letters.substring(0, n);
            faultIs(NOT_FOUND, n, whole);
            faultIs(NOT_FOUND, n, new StringBuilder(whole).reverse().toString());
            faultIs(n - 1, n, whole.substring(0, n - 1));
            faultIs(n, n, letters.substring(0, n + 1));
            faultIs(0, n, letters.substring(n, n + 1));
            faultIs(n, n, whole + whole);
        }
        faultIs(1, 3, "aabc");
        faultIs(2, 3, "aba");
        faultIs(0, 3, "Abc");
        faultIs(0, 3, "`bc");
        faultIs(1, 3, "a bc");
    }

    private static void faults() {
        faultIs(0, 3, "");
        faultIs(0, 3, "?");
        faultIs(0, 3, "?abc");
        faultIs(3, 3, "abc?");
        faultIs(1, 3, "a");
        faultIs(1, 3, "a??");
        faultIs(60, 1, "a+".repeat(30));
        faultIs(59, 1, "a+".repeat(29) + "a*");
        faultIs(NOT_FOUND, 1, "a+".repeat(29) + "a");
        faultIs(60, 4, "abcd-".repeat(12));
    }

    private static void texts() {
        DOCUMENT.in("Texts");
        DOCUMENT.test("There is a text of at most 60 characters, initially empty", TermsTest::textsLength);
        DOCUMENT.test("As a sum it is one or more terms", TermsTest::oneOrMoreTerms);
        DOCUMENT.test("the first one perhaps with \"-\" ahead of it", TermsTest::signAheadOfTheFirst);
        DOCUMENT.test("all others with \"+\" or \"-\" ahead", TermsTest::signAheadOfTheOthers);
        DOCUMENT.test("a number of 1 to 3 digits (the first one not 0)", TermsTest::numbersOfTerms);
        DOCUMENT.test("and \"*\", and then an order", TermsTest::stars);
        DOCUMENT.test("its n letters told as a to e (a for 1), each once", TermsTest::lettersOfTerms);
        DOCUMENT.test("The fault of the text is the index", TermsTest::faults);
    }

    private static void whatIsAChange() {
        String[] changes = {"begin", "add", "addClass", "clear", "multiply", "combine", "turn", "shuffle", "read"};
        // None of these calls changes a factor.
        int[][] without = {{3}, {0, 0, 0}, {0, 0, 0, 0}, {0}, {0, 1, 2}, {0, 0, 1, 1, 1}, {0, 3}, {0, 1, 0, 0}, {0}};
        int[][] refused = {{6}, {0, 6, 0}, {0, 4, 0, 0}, {3}, {0, 1, 3}, {0, 0, 100, 1, 1}, {0, 4}, {0, 3, 0, 0}, {3}};
        for (int i = 0; i < changes.length; i++) {
            Tried x = Tried.fresh().types("abc").due(0, "count", 2).goes(changes[i], without[i]).due(1, "count", 2);
            x.due(INVALID, changes[i], refused[i]).due(1, "count", 2).due(0, "undo").due(NOT_POSSIBLE, "undo");
        }
        String[] others = {"orderOf", "product", "factor", "termOf", "sumOf", "classOf", "peakSum", "square",
            "byOrders", "byTables", "count", "undo", "type", "clearText", "fault"};
        int[][] good = {{0, 0}, {0, 0}, {0, 0}, {0, 0, 0}, {0, 0}, {0, 0, 0}, {0, 0}, {0}, {0, 0, 0},
            {0, 0, 0}, {2}, {}, {'a'}, {}, {}};
        for (int i = 0; i < others.length; i++) {
            int left = others[i].equals("undo") ? 0 : 1;
            Tried.fresh().due(5, "add", 0, 0, 5).goes(others[i], good[i]).due(left, "count", 2);
        }
    }

    private static void fourStates() {
        for (int changes = 0; changes <= 11; changes++) {
            Tried x = Tried.fresh();
            for (int i = 1; i <= changes; i++) {
                x.due(i, "add", 0, 0, 1).due(Math.min(i, 4), "count", 2);
            }
            for (int left = Math.min(changes, 4) - 1; left >= 0; left--) {
                x.due(left, "undo");
            }
            x.due(NOT_POSSIBLE, "undo").due(Math.max(0, changes - 4), "factor", 0, 0);
        }
    }

    private static void statesGoRound() {
        // Each round drops as many states as there is no room for, wherever in its rows the history stands.
        for (int taken = 1; taken <= 4; taken++) {
            Tried x = Tried.fresh();
            int factor = 0;
            for (int round = 0; round < 6; round++) {
                for (int i = 0; i < 5; i++) {
                    factor++;
                    x.due(factor, "add", 1, 2, 1);
                }
                for (int i = 1; i <= taken; i++) {
                    factor--;
                    x.due(4 - i, "undo").due(factor, "factor", 1, 2);
                }
            }
        }
    }

    private static void everythingButTheText() {
        Tried x = Tried.with(4).types("abc").due(2, "add", 0, 0, 2).due(3, "add", 1, 23, 3).due(1, "add", 2, 9, 1);
        x.due(120, "begin", 5).types("de").due(9, "add", 2, 119, 9).retypes("x");
        x.due(3, "undo").due(5, "count", 0).due(0, "sumOf", 2, 0);
        x.due(2, "undo").due(4, "count", 0).due(24, "count", 1);
        x.due(2, "factor", 0, 0).due(3, "factor", 1, 23).due(1, "factor", 2, 9).due(1, "sumOf", 2, 0);
        x.due(1, "count", 3).due(0, "fault");
    }

    private static Tried atTheBound() {
        return Tried.with(2).raise(0, 0, MOST).types("1*ab");
    }

    private static void severalErrors() {
        // Out of range and beyond the bounds; out of range and with a fault; out of range and full.
        atTheBound().due(INVALID, "add", 0, 0, 1000).due(INVALID, "addClass", 0, 0, 2, 1);
        atTheBound().due(INVALID, "combine", 0, 0, 100, 0, 1).due(INVALID, "shuffle", 0, 1, 0, 1);
        atTheBound().due(LIMIT, "read", 0).types("+").due(INVALID, "read", 3).due(NOT_POSSIBLE, "read", 0);
        Tried.fresh().types("a".repeat(60)).due(INVALID, "type", 127).due(INVALID, "type", 31)
            .due(LIMIT, "type", 32);
        // Out of range and not to be found.
        Tried.fresh().due(INVALID, "termOf", 3, 0, 0).due(INVALID, "termOf", 0, 0, 2).due(INVALID, "square", 3);
        Tried.fresh().due(INVALID, "peakSum", 3, 1).due(INVALID, "peakSum", 0, 8).due(NOT_FOUND, "peakSum", 0, 1);
        Tried.fresh().due(1, "add", 0, 1, 1).due(INVALID, "classOf", 0, 4, 0).due(INVALID, "classOf", 0, 0, 2)
            .due(NOT_FOUND, "classOf", 0, 0, 0);
    }

    private static void errorsChangeNothing() {
        Supplier<Tried> full = () -> Tried.prepared(3).raise(0, 1, MOST).due(-7, "factor", 1, 5);
        Tried.refuses(full, INVALID, "begin", 0);
        Tried.refuses(full, INVALID, "count", 4);
        Tried.refuses(full, LIMIT, "add", 0, 1, 1);
        Tried.refuses(full, LIMIT, "addClass", 0, 3, 1, 1);
        Tried.refuses(full, INVALID, "clear", 3);
        Tried.refuses(full, LIMIT, "multiply", 0, 0, 0);
        Tried.refuses(full, LIMIT, "combine", 2, 0, 2, 1, 1);
        Tried.refuses(full, INVALID, "turn", 0, 4);
        Tried.refuses(full, LIMIT, "shuffle", 0, 1, 0, 1);
        Tried.refuses(full, INVALID, "orderOf", 0, 13);
        Tried.refuses(full, INVALID, "product", 6, 0);
        Tried.refuses(full, INVALID, "factor", 0, 6);
        Tried.refuses(full, NOT_FOUND, "termOf", 0, 2, 0);
        Tried.refuses(full, INVALID, "sumOf", 0, 5);
        Tried.refuses(full, NOT_FOUND, "classOf", 0, 0, 0);
        Tried.refuses(full, NOT_FOUND, "peakSum", 0, 1);
        Tried.refuses(full, NOT_FOUND, "square", 0);
        Tried.refuses(full, INVALID, "byOrders", 4, 0, 0);
        Tried.refuses(full, INVALID, "byTables", 0, 0, -2);
        Tried.refuses(full, INVALID, "type", 127);
        Tried.refuses(full, NOT_FOUND, "fault");
        Tried.refuses(() -> full.get().retypes("acb"), LIMIT, "read", 0);
        Tried.refuses(() -> full.get().retypes("abc+acb+"), NOT_POSSIBLE, "read", 2);
        Tried.refuses(() -> Tried.fresh().types("a".repeat(60)), LIMIT, "type", 'a');
        Tried.refuses(() -> Tried.fresh().types("abc"), NOT_POSSIBLE, "undo");
    }

    private static void changesAndErrors() {
        DOCUMENT.in("Changes and errors");
        DOCUMENT.test("The changes are the calls of begin, add", TermsTest::whatIsAChange);
        DOCUMENT.test("A history of at most 4 states is kept", TermsTest::fourStates);
        DOCUMENT.test("if there are 5 states then, the oldest one is dropped", TermsTest::statesGoRound);
        DOCUMENT.test("each change records everything before it but the text", TermsTest::everythingButTheText);
        DOCUMENT.test("If several errors apply to a call", TermsTest::severalErrors);
        DOCUMENT.test("A call that returns an error changes nothing", TermsTest::errorsChangeNothing);
        DOCUMENT.test("`INVALID_ARGUMENT = -10000001`",
            () -> Tried.check(DescentShuffles.INVALID_ARGUMENT == INVALID, "INVALID_ARGUMENT"));
        DOCUMENT.test("`NOT_POSSIBLE = -10000002`",
            () -> Tried.check(DescentShuffles.NOT_POSSIBLE == NOT_POSSIBLE, "NOT_POSSIBLE"));
        DOCUMENT.test("`LIMIT_REACHED = -10000003`",
            () -> Tried.check(DescentShuffles.LIMIT_REACHED == LIMIT, "LIMIT_REACHED"));
        DOCUMENT.test("`NOT_FOUND = -10000004`",
            () -> Tried.check(DescentShuffles.NOT_FOUND == NOT_FOUND, "NOT_FOUND"));
        DOCUMENT.plain("the interface says: ---- sums", "the interface says: ---- orders",
            "the interface says: ---- what sums are", "the interface says: ---- products of classes",
            "the interface says: ---- texts");
    }

    public static void main(String[] arguments) {
        DOCUMENT.in("What it is");
        DOCUMENT.plain("Sums of orders with descents");
        DOCUMENT.test("An object is used for at most 512 calls", TermsTest::lastCall);
        DOCUMENT.in("Terms");
        DOCUMENT.plain("All numbers are whole numbers");
        DOCUMENT.test("bit k is for the place k, from 0", TermsTest::setsAsBits);
        orders();
        sums();
        classes();
        tables();
        texts();
        changesAndErrors();
        DOCUMENT.finish();
    }
}
