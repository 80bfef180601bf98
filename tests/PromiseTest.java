/** Each promise by calls told by hand: ordinary ones, edges and wrong ones. */
public final class PromiseTest {
    private static final int INVALID = -10000001;
    private static final int NOT_POSSIBLE = -10000002;
    private static final int LIMIT = -10000003;
    private static final int NOT_FOUND = -10000004;
    private static final int LOW = Integer.MIN_VALUE;
    private static final int HIGH = Integer.MAX_VALUE;

    private static int wrong = 0;
    private static int calls = 0;

    private static void due(String call, int got, int want) {
        calls++;
        if (got != want) {
            wrong++;
            System.out.println(call + " answered " + got + ", due is " + want);
        }
    }

    private static DescentShuffles with(int n) {
        DescentShuffles x = new DescentShuffles();
        x.begin(n);
        return x;
    }

    private static void typeAll(DescentShuffles x, String text) {
        x.clearText();
        for (int i = 0; i < text.length(); i++) {
            x.type(text.charAt(i));
        }
    }

    private static void promise1NewObject() {
        DescentShuffles x = new DescentShuffles();
        due("1: n", x.count(0), 3);
        due("1: orders", x.count(1), 6);
        due("1: states", x.count(2), 0);
        due("1: text", x.count(3), 0);
        for (int sum = 0; sum < 3; sum++) {
            for (int order = 0; order < 6; order++) {
                due("1: factor", x.factor(sum, order), 0);
            }
            due("1: no seventh order", x.factor(sum, 6), INVALID);
        }
    }

    private static void promise2Begin() {
        DescentShuffles x = new DescentShuffles();
        for (int n : new int[] {0, 6, -1, LOW, HIGH}) {
            due("2: begin(" + n + ")", x.begin(n), INVALID);
        }
        due("2: nothing kept", x.count(2), 0);
        int[] many = {0, 1, 2, 6, 24, 120};
        for (int n = 1; n <= 5; n++) {
            x.add(2, 0, 7);
            due("2: begin(" + n + ")", x.begin(n), many[n]);
            due("2: n", x.count(0), n);
            due("2: orders", x.count(1), many[n]);
            for (int sum = 0; sum < 3; sum++) {
                due("2: all are 0", x.sumOf(sum, 0), 0);
            }
        }
        due("2: history stays", x.count(2), 4);
        x.add(0, 119, 5);
        x.begin(2);
        x.begin(5);
        due("2: no factor comes back", x.factor(0, 119), 0);
    }

    private static void promise3Add() {
        DescentShuffles x = new DescentShuffles();
        due("3: add", x.add(0, 5, 999), 999);
        due("3: add", x.add(0, 5, -999), 0);
        due("3: add", x.add(2, 0, -999), -999);
        due("3: the others stay", x.factor(0, 0), 0);
        for (int bad : new int[] {-1, 3, LOW, HIGH}) {
            due("3: bad sum", x.add(bad, 0, 1), INVALID);
        }
        for (int bad : new int[] {-1, 6, LOW, HIGH}) {
            due("3: bad order", x.add(0, bad, 1), INVALID);
        }
        for (int bad : new int[] {-1000, 1000, LOW, HIGH}) {
            due("3: bad factor", x.add(0, 0, bad), INVALID);
        }
        for (int i = 1; i <= 50; i++) {
            due("3: up", x.add(1, 3, 999), 999 * i);
            due("3: down", x.add(1, 4, -999), -999 * i);
        }
        due("3: to the bound", x.add(1, 3, 50), 50000);
        due("3: to the lower bound", x.add(1, 4, -50), -50000);
        due("3: 0 at the bound", x.add(1, 3, 0), 50000);
        int states = x.count(2);
        due("3: beyond", x.add(1, 3, 1), LIMIT);
        due("3: beyond", x.add(1, 4, -1), LIMIT);
        due("3: invalid rather than limit", x.add(1, 3, 1000), INVALID);
        due("3: changes nothing", x.factor(1, 3), 50000);
        due("3: keeps nothing", x.count(2), states);
        due("3: adding 0 is a change", new DescentShuffles().add(0, 0, 0), 0);
        DescentShuffles y = new DescentShuffles();
        y.add(0, 0, 0);
        due("3: adding 0 is a change", y.count(2), 1);
    }

    private static void promise4AddClass() {
        DescentShuffles x = with(4);
        int[] members = {1, 3, 5, 3, 3, 5, 3, 1};
        int[] wide = {1, 4, 6, 12, 4, 12, 12, 24};
        for (int set = 0; set < 8; set++) {
            due("4: class " + set, x.addClass(0, set, 0, 2), members[set]);
            due("4: wide class " + set, x.addClass(1, set, 1, -1), wide[set]);
        }
        due("4: all classes", x.sumOf(0, 1), 48);
        due("4: 0 is in all wide classes", x.factor(1, 0), -8);
        due("4: 23 is in one wide class", x.factor(1, 23), -1);
        due("4: factor 0", x.addClass(2, 7, 1, 0), 24);
        for (int bad : new int[] {-1, 3, LOW, HIGH}) {
            due("4: bad sum", x.addClass(bad, 0, 0, 1), INVALID);
        }
        for (int bad : new int[] {-1, 8, LOW, HIGH}) {
            due("4: bad set", x.addClass(0, bad, 0, 1), INVALID);
        }
        for (int bad : new int[] {-1, 2, LOW, HIGH}) {
            due("4: bad wide", x.addClass(0, 0, bad, 1), INVALID);
        }
        for (int bad : new int[] {-1000, 1000, LOW, HIGH}) {
            due("4: bad factor", x.addClass(0, 0, 0, bad), INVALID);
        }
        DescentShuffles y = with(1);
        due("4: one letter", y.addClass(0, 0, 0, 999), 1);
        due("4: one letter, no set 1", y.addClass(0, 1, 0, 1), INVALID);
        for (int i = 0; i < 49; i++) {
            y.addClass(0, 0, 1, 999);
        }
        due("4: to the bound", y.addClass(0, 0, 1, 50), 1);
        due("4: beyond", y.addClass(0, 0, 1, 1), LIMIT);
        due("4: as it was", y.factor(0, 0), 50000);
    }

    private static void promise5Clear() {
        DescentShuffles x = new DescentShuffles();
        due("5: nothing there", x.clear(0), 0);
        due("5: yet a change", x.count(2), 1);
        x.addClass(0, 3, 1, 4);
        x.add(0, 2, -4);
        x.add(1, 1, 1);
        due("5: five", x.clear(0), 5);
        due("5: all are 0", x.sumOf(0, 0), 0);
        due("5: the others stay", x.factor(1, 1), 1);
        for (int bad : new int[] {-1, 3, LOW, HIGH}) {
            due("5: bad sum", x.clear(bad), INVALID);
        }
    }

    private static void promise6Multiply() {
        DescentShuffles x = new DescentShuffles();
        x.add(0, 1, 2);
        x.add(1, 2, 3);
        due("6: multiply", x.multiply(2, 0, 1), 1);
        due("6: acb times bac is cab", x.factor(2, 4), 6);
        due("6: multiply", x.multiply(2, 1, 0), 1);
        due("6: bac times acb is bca", x.factor(2, 3), 6);
        due("6: what was there goes", x.factor(2, 4), 0);
        due("6: into itself", x.multiply(0, 0, 0), 1);
        due("6: the square of acb", x.factor(0, 0), 4);
        x.clear(0);
        due("6: by nothing", x.multiply(1, 1, 0), 0);
        for (int bad : new int[] {-1, 3, LOW, HIGH}) {
            due("6: bad sum", x.multiply(bad, 0, 0), INVALID);
            due("6: bad first", x.multiply(0, bad, 0), INVALID);
            due("6: bad second", x.multiply(0, 0, bad), INVALID);
        }
        DescentShuffles y = new DescentShuffles();
        y.add(0, 0, 250);
        y.add(1, 0, 200);
        due("6: to the bound", y.multiply(2, 0, 1), 1);
        due("6: to the bound", y.factor(2, 0), 50000);
        y.add(1, 0, 1);
        due("6: beyond", y.multiply(2, 0, 1), LIMIT);
        due("6: as it was", y.factor(2, 0), 50000);
        due("6: far beyond", y.multiply(2, 2, 2), LIMIT);
        y.combine(0, 2, -1, 2, 0);
        y.add(0, 1, 1);
        y.clear(1);
        y.add(1, 0, 1);
        y.add(1, 2, 1);
        due("6: below 0", y.multiply(2, 0, 1), 4);
        due("6: the lower bound", y.factor(2, 0), -50000);
    }

    private static void promise6CancelsBetween() {
        DescentShuffles x = new DescentShuffles();
        for (int i = 0; i < 5; i++) {
            x.add(0, 0, 999);
            x.add(0, 1, 999);
            x.add(1, 0, 999);
            x.add(1, 1, -999);
        }
        due("6: what comes between does not matter", x.multiply(2, 0, 1), 0);
        due("6: all cancelled", x.sumOf(2, 0), 0);
    }

    private static void promise7Combine() {
        DescentShuffles x = new DescentShuffles();
        x.add(0, 0, 500);
        x.add(1, 0, 999);
        x.add(1, 5, 1);
        due("7: combine", x.combine(2, 0, 99, 1, -2), 2);
        due("7: factor", x.factor(2, 0), 47502);
        due("7: factor", x.factor(2, 5), -2);
        due("7: beyond between alone", x.combine(2, 2, 99, 2, -98), 2);
        due("7: the same", x.factor(2, 0), 47502);
        due("7: into itself", x.combine(2, 2, 1, 2, -1), 0);
        due("7: beyond", x.combine(2, 1, 99, 0, 3), LIMIT);
        due("7: to the bound", x.combine(2, 0, 99, 0, 1), 1);
        due("7: to the bound", x.factor(2, 0), 50000);
        due("7: multiples 0", x.combine(2, 0, 0, 1, 0), 0);
        for (int bad : new int[] {-1, 3, LOW, HIGH}) {
            due("7: bad sum", x.combine(bad, 0, 1, 0, 1), INVALID);
            due("7: bad first sum", x.combine(0, bad, 1, 0, 1), INVALID);
            due("7: bad second sum", x.combine(0, 0, 1, bad, 1), INVALID);
        }
        for (int bad : new int[] {-100, 100, LOW, HIGH}) {
            due("7: bad first multiple", x.combine(0, 0, bad, 0, 1), INVALID);
            due("7: bad second multiple", x.combine(0, 0, 1, 0, bad), INVALID);
        }
    }

    private static void promise8Turn() {
        DescentShuffles x = new DescentShuffles();
        x.add(0, 3, 5);
        x.add(0, 1, 2);
        due("8: inverse", x.turn(0, 0), 2);
        due("8: bca goes to cab", x.factor(0, 4), 5);
        due("8: acb stays", x.factor(0, 1), 2);
        due("8: backwards", x.turn(0, 1), 4);
        due("8: cab goes to bac", x.factor(0, 2), 5);
        due("8: acb goes to bca", x.factor(0, 3), 2);
        due("8: other letters", x.turn(0, 2), 2);
        due("8: bac goes to bca", x.factor(0, 3), 5);
        due("8: bca goes to bac", x.factor(0, 2), 2);
        due("8: signs", x.turn(0, 3), 1);
        due("8: bac is odd", x.factor(0, 2), -2);
        due("8: bca is even", x.factor(0, 3), 5);
        due("8: nothing there", x.turn(1, 3), 0);
        int states = x.count(2);
        due("8: way 4", x.turn(0, 4), INVALID);
        due("8: way -1", x.turn(0, -1), INVALID);
        due("8: bad sum", x.turn(3, 0), INVALID);
        due("8: bad sum", x.turn(-1, 0), INVALID);
        due("8: keeps nothing", x.count(2), states);
    }

    private static void promise9Shuffle() {
        DescentShuffles x = with(4);
        due("9: one letter", x.shuffle(0, 1, 0, 5), 4);
        // The letters b to d come as d, c, b: adcb, dacb, dcab and dcba.
        for (int order = 0; order < 24; order++) {
            boolean isOne = order == 5 || order == 19 || order == 22 || order == 23;
            due("9: order " + order, x.factor(0, order), isOne ? 1 : 0);
        }
        due("9: three letters", x.shuffle(1, 3, 2, 0), 4);
        due("9: bacd", x.factor(1, 6), 1);
        due("9: dbac", x.factor(1, 20), 1);
        due("9: three letters and two", with(5).shuffle(2, 3, 5, 1), 10);
        due("9: k 0", x.shuffle(0, 0, 0, 0), INVALID);
        due("9: k 4", x.shuffle(0, 4, 0, 0), INVALID);
        due("9: k low", x.shuffle(0, LOW, 0, 0), INVALID);
        due("9: k high", x.shuffle(0, HIGH, 0, 0), INVALID);
        due("9: first beyond", x.shuffle(0, 1, 1, 0), INVALID);
        due("9: first below", x.shuffle(0, 1, -1, 0), INVALID);
        due("9: second beyond", x.shuffle(0, 1, 0, 6), INVALID);
        due("9: second below", x.shuffle(0, 1, 0, -1), INVALID);
        due("9: bad sum", x.shuffle(3, 1, 0, 0), INVALID);
        due("9: bad sum", x.shuffle(-1, 1, 0, 0), INVALID);
        due("9: one letter has no k", with(1).shuffle(0, 1, 0, 0), INVALID);
        DescentShuffles y = with(2);
        for (int i = 0; i < 50; i++) {
            y.add(0, 1, 999);
        }
        y.add(0, 1, 49);
        due("9: to the bound", y.shuffle(0, 1, 0, 0), 2);
        due("9: beyond", y.shuffle(0, 1, 0, 0), LIMIT);
        due("9: as it was", y.factor(0, 0), 1);
    }

    private static void promise10OrderOf() {
        DescentShuffles x = with(5);
        // 63 is cdbea, with the letters 3, 4, 2, 5, 1; its inverse is ecabd.
        int order = 63;
        int[] letters = {3, 4, 2, 5, 1};
        int[] dues = {2 + 8, 2 + 8, 6, 0, 108, 6, 1};
        for (int what = 0; what < 7; what++) {
            due("10: cdbea, " + what, x.orderOf(order, what), dues[what]);
        }
        for (int k = 0; k < 5; k++) {
            due("10: letter " + k, x.orderOf(order, 10 + k), letters[k]);
        }
        for (int what : new int[] {-1, 7, 8, 9, 15, LOW, HIGH}) {
            due("10: bad what " + what, x.orderOf(order, what), INVALID);
        }
        for (int bad : new int[] {-1, 120, LOW, HIGH}) {
            due("10: bad order", x.orderOf(bad, 0), INVALID);
        }
        due("10: the last: descents", x.orderOf(119, 0), 15);
        due("10: the last: no peaks", x.orderOf(119, 1), 0);
        due("10: the last: inversions", x.orderOf(119, 2), 10);
        due("10: the last: descents added up", x.orderOf(119, 5), 10);
        due("10: the last: rings", x.orderOf(119, 6), 3);
        due("10: the first: rings", x.orderOf(0, 6), 5);
        due("10: the first: inverse", x.orderOf(0, 4), 0);
        due("10: acbde: parity", x.orderOf(6, 3), 1);
        DescentShuffles y = with(1);
        due("10: one letter", y.orderOf(0, 10), 1);
        due("10: one letter, k 1", y.orderOf(0, 11), INVALID);
        due("10: one letter, rings", y.orderOf(0, 6), 1);
        due("10: one letter, order 1", y.orderOf(1, 0), INVALID);
    }

    private static void promise11Product() {
        DescentShuffles x = new DescentShuffles();
        due("11: acb bac", x.product(1, 2), 4);
        due("11: bac acb", x.product(2, 1), 3);
        due("11: bca bca", x.product(3, 3), 4);
        due("11: bca cab", x.product(3, 4), 0);
        due("11: abc cba", x.product(0, 5), 5);
        for (int bad : new int[] {-1, 6, LOW, HIGH}) {
            due("11: bad first", x.product(bad, 0), INVALID);
            due("11: bad second", x.product(0, bad), INVALID);
        }
    }

    private static void promise12Factor() {
        DescentShuffles x = new DescentShuffles();
        x.add(1, 4, -7);
        due("12: factor", x.factor(1, 4), -7);
        due("12: another order", x.factor(1, 3), 0);
        due("12: another sum", x.factor(0, 4), 0);
        for (int bad : new int[] {-1, 3, LOW, HIGH}) {
            due("12: bad sum", x.factor(bad, 0), INVALID);
        }
        for (int bad : new int[] {-1, 6, LOW, HIGH}) {
            due("12: bad order", x.factor(0, bad), INVALID);
        }
    }

    private static void promise13TermOf() {
        DescentShuffles x = new DescentShuffles();
        due("13: nothing there", x.termOf(0, 0, 0), NOT_FOUND);
        x.add(0, 5, 3);
        x.add(0, 2, -4);
        due("13: first", x.termOf(0, 0, 0), 2);
        due("13: its factor", x.termOf(0, 0, 1), -4);
        due("13: second", x.termOf(0, 1, 0), 5);
        due("13: its factor", x.termOf(0, 1, 1), 3);
        due("13: third", x.termOf(0, 2, 0), NOT_FOUND);
        due("13: far", x.termOf(0, HIGH, 1), NOT_FOUND);
        due("13: negative", x.termOf(0, -1, 0), INVALID);
        due("13: negative", x.termOf(0, LOW, 0), INVALID);
        due("13: what 2", x.termOf(0, 0, 2), INVALID);
        due("13: what -1", x.termOf(0, 9, -1), INVALID);
        due("13: bad sum", x.termOf(3, 0, 0), INVALID);
        due("13: bad sum", x.termOf(-1, 9, 0), INVALID);
    }

    private static void promise14SumOf() {
        DescentShuffles x = new DescentShuffles();
        x.addClass(0, 1, 0, -3);
        due("14: terms", x.sumOf(0, 0), 2);
        due("14: added up", x.sumOf(0, 1), -6);
        due("14: by descents", x.sumOf(0, 2), 1);
        due("14: greatest", x.sumOf(0, 3), 0);
        due("14: least", x.sumOf(0, 4), -3);
        x.add(0, 5, 9);
        due("14: greatest", x.sumOf(0, 3), 9);
        due("14: by descents still", x.sumOf(0, 2), 1);
        x.add(0, 4, 1);
        due("14: no more", x.sumOf(0, 2), 0);
        due("14: nothing goes by descents", x.sumOf(1, 2), 1);
        x.addClass(1, 3, 1, 4);
        due("14: least of all", x.sumOf(1, 4), 4);
        x.combine(1, 1, -1, 1, 0);
        due("14: greatest of all", x.sumOf(1, 3), -4);
        for (int bad : new int[] {-1, 5, LOW, HIGH}) {
            due("14: bad what", x.sumOf(0, bad), INVALID);
        }
        for (int bad : new int[] {-1, 3, LOW, HIGH}) {
            due("14: bad sum", x.sumOf(bad, 0), INVALID);
        }
    }

    private static void promise15ClassOf() {
        DescentShuffles x = with(4);
        for (int set = 0; set < 8; set++) {
            x.addClass(0, set, 0, set + 1);
            x.addClass(1, set, 1, 10 * set - 5);
        }
        int[] asWide = {0, 0, 0, -1, 0, -2, -4, 8};
        for (int set = 0; set < 8; set++) {
            due("15: class " + set, x.classOf(0, set, 0), set + 1);
            due("15: wide class " + set, x.classOf(1, set, 1), 10 * set - 5);
        }
        due("15: wide from classes, 7", x.classOf(0, 7, 1), asWide[7]);
        due("15: wide from classes, 6", x.classOf(0, 6, 1), 7 - 8);
        due("15: wide from classes, 5", x.classOf(0, 5, 1), 6 - 8);
        due("15: wide from classes, 1", x.classOf(0, 1, 1), 2 - 4 - 6 + 8);
        due("15: class from wide ones, 3", x.classOf(1, 3, 0), 25 + 65);
        x.add(0, 1, 1);
        due("15: no more", x.classOf(0, 7, 0), NOT_FOUND);
        due("15: no more", x.classOf(0, 7, 1), NOT_FOUND);
        due("15: invalid rather than not found", x.classOf(0, 8, 0), INVALID);
        for (int bad : new int[] {-1, 8, LOW, HIGH}) {
            due("15: bad set", x.classOf(1, bad, 0), INVALID);
        }
        due("15: bad wide", x.classOf(1, 0, 2), INVALID);
        due("15: bad wide", x.classOf(1, 0, -1), INVALID);
        due("15: bad sum", x.classOf(3, 0, 0), INVALID);
        due("15: bad sum", x.classOf(-1, 0, 0), INVALID);
        DescentShuffles y = with(1);
        y.add(0, 0, 6);
        due("15: one letter", y.classOf(0, 0, 1), 6);
        due("15: one letter, set 1", y.classOf(0, 1, 1), INVALID);
    }

    private static void promise16PeakSum() {
        DescentShuffles x = with(5);
        x.addClass(0, 15, 1, 1);
        due("16: no peaks", x.peakSum(0, 0), 16);
        due("16: peak at 1", x.peakSum(0, 2), 24);
        due("16: peak at 2", x.peakSum(0, 4), 40);
        due("16: peak at 3", x.peakSum(0, 8), 24);
        due("16: peaks at 1 and 3", x.peakSum(0, 10), 16);
        for (int none : new int[] {1, 3, 6, 12, 14, 16, 31}) {
            due("16: no order, " + none, x.peakSum(0, none), NOT_FOUND);
        }
        due("16: found with 0", x.peakSum(1, 10), 0);
        for (int bad : new int[] {-1, 32, LOW, HIGH}) {
            due("16: bad peaks", x.peakSum(0, bad), INVALID);
        }
        due("16: bad sum", x.peakSum(3, 0), INVALID);
        due("16: bad sum", x.peakSum(-1, 1), INVALID);
        DescentShuffles y = with(1);
        due("16: one letter", y.peakSum(0, 0), 0);
        due("16: one letter, a peak", y.peakSum(0, 1), NOT_FOUND);
        due("16: one letter, beyond", y.peakSum(0, 2), INVALID);
    }

    private static void promise17Square() {
        DescentShuffles x = new DescentShuffles();
        due("17: nothing there", x.square(0), NOT_FOUND);
        x.add(0, 0, -7);
        due("17: the first order", x.square(0), -7);
        x.add(0, 1, 3);
        due("17: no multiple", x.square(0), NOT_FOUND);
        x.addClass(1, 3, 1, 999);
        due("17: all orders", x.square(1), 5994);
        x.combine(1, 1, 50, 1, 0);
        due("17: beyond the bounds", x.square(1), 299700);
        x.add(2, 1, 1);
        x.add(2, 3, -1);
        x.add(2, 4, 1);
        x.add(2, 5, -1);
        due("17: the multiple 0", x.square(2), 0);
        x.clear(2);
        x.add(2, 3, 2);
        x.add(2, 4, 2);
        x.add(2, 0, 2);
        due("17: three rings", x.square(2), 6);
        due("17: bad sum", x.square(3), INVALID);
        due("17: bad sum", x.square(-1), INVALID);
        DescentShuffles y = with(2);
        y.add(0, 0, 2);
        y.add(0, 1, 1);
        due("17: 4 + 1 and 4 are no multiple of 2 and 1", y.square(0), NOT_FOUND);
        due("17: changes nothing", y.count(2), 3);
    }

    private static void promise18ByOrders() {
        DescentShuffles x = new DescentShuffles();
        due("18: by nothing", x.byOrders(1, 0, 1), 1);
        due("18: nothing by", x.byOrders(0, 2, 2), 1);
        due("18: 1 and 2 in 2", x.byOrders(1, 2, 2), 1);
        due("18: 1 and 2 in 1", x.byOrders(1, 2, 1), 0);
        due("18: 2 and 1 in 1", x.byOrders(2, 1, 1), 1);
        due("18: 1 and 2 in 3", x.byOrders(1, 2, 3), 1);
        due("18: all and all", x.byOrders(3, 3, 3), 6);
        for (int bad : new int[] {-1, 4, LOW, HIGH}) {
            due("18: bad p", x.byOrders(bad, 0, 0), INVALID);
            due("18: bad q", x.byOrders(0, bad, 0), INVALID);
            due("18: bad r", x.byOrders(0, 0, bad), INVALID);
        }
        due("18: one letter", with(1).byOrders(0, 0, 0), 1);
        due("18: all of five letters", with(5).byOrders(15, 15, 15), 120);
    }

    private static void promise19ByTables() {
        DescentShuffles x = new DescentShuffles();
        due("19: by nothing", x.byTables(1, 0, 1), 1);
        due("19: nothing by", x.byTables(0, 2, 2), 1);
        due("19: 1 and 2 for 2", x.byTables(1, 2, 2), 1);
        due("19: 1 and 2 for 1", x.byTables(1, 2, 1), 0);
        due("19: 2 and 1 for 1", x.byTables(2, 1, 1), 1);
        due("19: all tables", x.byTables(3, 3, -1), 6);
        due("19: two and two", with(4).byTables(2, 2, -1), 3);
        due("19: two and two by ones", with(4).byTables(2, 2, 7), 1);
        due("19: two and two by twos", with(4).byTables(2, 2, 2), 2);
        for (int bad : new int[] {-1, 4, LOW, HIGH}) {
            due("19: bad p", x.byTables(bad, 0, 0), INVALID);
            due("19: bad q", x.byTables(0, bad, 0), INVALID);
        }
        for (int bad : new int[] {-2, 4, LOW, HIGH}) {
            due("19: bad r", x.byTables(0, 0, bad), INVALID);
        }
        due("19: one letter", with(1).byTables(0, 0, -1), 1);
        due("19: all of five letters", with(5).byTables(15, 15, -1), 120);
    }

    private static void promises18And19Agree() {
        for (int n = 1; n <= 5; n++) {
            int sets = 1 << (n - 1);
            for (int p = 0; p < sets; p++) {
                for (int q = 0; q < sets; q++) {
                    DescentShuffles x = with(n);
                    int total = 0;
                    for (int r = 0; r < sets; r++) {
                        int byTables = x.byTables(p, q, r);
                        due("18 and 19: " + n + " " + p + " " + q + " " + r, x.byOrders(p, q, r), byTables);
                        total += byTables;
                    }
                    due("19: all " + n + " " + p + " " + q, x.byTables(p, q, -1), total);
                }
            }
        }
    }

    private static void promise20Count() {
        DescentShuffles x = with(5);
        x.type('x');
        due("20: n", x.count(0), 5);
        due("20: orders", x.count(1), 120);
        due("20: states", x.count(2), 1);
        due("20: text", x.count(3), 1);
        for (int bad : new int[] {-1, 4, LOW, HIGH}) {
            due("20: bad what", x.count(bad), INVALID);
        }
    }

    private static void promise21Undo() {
        DescentShuffles x = new DescentShuffles();
        due("21: nothing to undo", x.undo(), NOT_POSSIBLE);
        x.add(0, 0, 1);
        x.begin(4);
        x.add(1, 23, 2);
        x.turn(1, 1);
        typeAll(x, "ab");
        due("21: four states", x.count(2), 4);
        due("21: undo", x.undo(), 3);
        due("21: turned back", x.factor(1, 23), 2);
        due("21: turned back", x.factor(1, 0), 0);
        due("21: undo", x.undo(), 2);
        due("21: not added", x.sumOf(1, 0), 0);
        due("21: undo", x.undo(), 1);
        due("21: three letters", x.count(0), 3);
        due("21: the factor is back", x.factor(0, 0), 1);
        due("21: undo", x.undo(), 0);
        due("21: as new", x.sumOf(0, 0), 0);
        due("21: no more", x.undo(), NOT_POSSIBLE);
        due("21: the text stays", x.count(3), 2);
        for (int i = 1; i <= 7; i++) {
            x.add(0, 0, 1);
            due("21: states", x.count(2), Math.min(i, 4));
        }
        for (int left = 3; left >= 0; left--) {
            due("21: undo", x.undo(), left);
        }
        due("21: the oldest were dropped", x.factor(0, 0), 3);
        due("21: no more", x.undo(), NOT_POSSIBLE);
    }

    private static void promise21WhatIsKept() {
        DescentShuffles x = new DescentShuffles();
        x.clear(0);
        x.multiply(0, 1, 2);
        x.combine(0, 1, 1, 2, 1);
        due("21: three changes", x.count(2), 3);
        x.undo();
        x.undo();
        x.undo();
        x.addClass(0, 0, 0, 0);
        x.shuffle(0, 1, 0, 0);
        typeAll(x, "abc");
        x.fault();
        due("21: texts are no changes", x.count(2), 2);
        x.read(0);
        due("21: read is one", x.count(2), 3);
        x.undo();
        due("21: unread", x.factor(0, 0), 1);
        due("21: errors are none", x.add(0, 6, 0), INVALID);
        due("21: errors are none", x.count(2), 2);
    }

    private static void promise22Type() {
        DescentShuffles x = new DescentShuffles();
        for (int bad : new int[] {31, 127, 0, -1, 65633, LOW, HIGH}) {
            due("22: bad character", x.type(bad), INVALID);
        }
        due("22: nothing typed", x.count(3), 0);
        due("22: the least", x.type(32), 1);
        due("22: the greatest", x.type(126), 2);
        for (int i = 3; i <= 60; i++) {
            due("22: type", x.type('a'), i);
        }
        due("22: full", x.type('a'), LIMIT);
        due("22: invalid rather than full", x.type(127), INVALID);
        due("22: still full", x.count(3), 60);
    }

    private static void promise23ClearText() {
        DescentShuffles x = new DescentShuffles();
        due("23: empty", x.clearText(), 0);
        typeAll(x, "abc+");
        due("23: clear", x.clearText(), 4);
        due("23: empty now", x.count(3), 0);
        due("23: no change", x.count(2), 0);
        due("23: the fault of no text", x.fault(), 0);
    }

    private static void faultIs(int n, String text, int want) {
        DescentShuffles x = with(n);
        typeAll(x, text);
        due("24: " + n + " \"" + text + "\"", x.fault(), want);
        int terms = 1 + text.replaceAll("[^+-]", "").length() - (text.startsWith("-") ? 1 : 0);
        due("25: " + n + " \"" + text + "\"", x.read(1), want == NOT_FOUND ? terms : NOT_POSSIBLE);
        due("25: states", x.count(2), want == NOT_FOUND ? 2 : 1);
        due("24: the text stays", x.count(3), text.length());
    }

    private static void promise24Fault() {
        faultIs(3, "", 0);
        faultIs(3, "abc", NOT_FOUND);
        faultIs(3, "-abc", NOT_FOUND);
        faultIs(3, "+abc", 0);
        faultIs(3, "--abc", 1);
        faultIs(3, "abc+", 4);
        faultIs(3, "abc+-abc", 4);
        faultIs(3, "abc-", 4);
        faultIs(3, "-", 1);
        faultIs(3, "ab", 2);
        faultIs(3, "abb", 2);
        faultIs(3, "abd", 2);
        faultIs(3, "d", 0);
        faultIs(3, "abca", 3);
        faultIs(3, "abc1", 3);
        faultIs(3, "abc*", 3);
        faultIs(3, "abc ", 3);
        faultIs(3, " abc", 0);
        faultIs(3, "Abc", 0);
        faultIs(3, "ab+", 2);
        faultIs(3, "0*abc", 0);
        faultIs(3, "-0", 1);
        faultIs(3, "10*abc", NOT_FOUND);
        faultIs(3, "999*abc-100*bca+1*cab", NOT_FOUND);
        faultIs(3, "1000*abc", 3);
        faultIs(3, "12", 2);
        faultIs(3, "12*", 3);
        faultIs(3, "12abc", 2);
        faultIs(3, "12**abc", 3);
        faultIs(3, "*abc", 0);
        faultIs(3, "a2*bc", 1);
        faultIs(3, "2*3*abc", 2);
        faultIs(3, "2*-abc", 2);
        faultIs(1, "a", NOT_FOUND);
        faultIs(1, "a+a", NOT_FOUND);
        faultIs(1, "b", 0);
        faultIs(1, "aa", 1);
        faultIs(2, "ba-ab", NOT_FOUND);
        faultIs(4, "abcd", NOT_FOUND);
        faultIs(4, "abce", 3);
        faultIs(5, "edcba", NOT_FOUND);
        faultIs(5, "abcdf", 4);
        faultIs(5, "abcd", 4);
        DescentShuffles x = with(3);
        typeAll(x, "abcd");
        due("24: three letters", x.fault(), 3);
        x.begin(4);
        due("24: four letters", x.fault(), NOT_FOUND);
    }

    private static void promise25Read() {
        DescentShuffles x = new DescentShuffles();
        x.add(1, 0, 1);
        typeAll(x, "-2*abc+cba-10*bac+abc");
        due("25: read", x.read(1), 4);
        due("25: abc", x.factor(1, 0), 0);
        due("25: cba", x.factor(1, 5), 1);
        due("25: bac", x.factor(1, 2), -10);
        due("25: again", x.read(1), 4);
        due("25: twice", x.factor(1, 2), -20);
        due("25: another sum", x.read(0), 4);
        due("25: once", x.factor(0, 2), -10);
        for (int bad : new int[] {-1, 3, LOW, HIGH}) {
            due("25: bad sum", x.read(bad), INVALID);
        }
        x.type('+');
        due("25: a fault", x.read(0), NOT_POSSIBLE);
        due("25: invalid rather than not possible", x.read(3), INVALID);
        due("25: nothing read", x.factor(0, 2), -10);
        DescentShuffles y = with(1);
        typeAll(y, "999*a+999*a+999*a+999*a+999*a+999*a+999*a+999*a+999*a+999*a");
        for (int i = 1; i <= 5; i++) {
            due("25: ten terms", y.read(0), 10);
        }
        due("25: up to", y.factor(0, 0), 49950);
        due("25: beyond", y.read(0), LIMIT);
        due("25: as it was", y.factor(0, 0), 49950);
        y.type('+');
        due("25: not possible rather than limit", y.read(0), NOT_POSSIBLE);
        typeAll(y, "999*a-949*a");
        due("25: beyond between alone", y.read(0), 2);
        due("25: to the bound", y.factor(0, 0), 50000);
    }

    public static void main(String[] args) {
        promise1NewObject();
        promise2Begin();
        promise3Add();
        promise4AddClass();
        promise5Clear();
        promise6Multiply();
        promise6CancelsBetween();
        promise7Combine();
        promise8Turn();
        promise9Shuffle();
        promise10OrderOf();
        promise11Product();
        promise12Factor();
        promise13TermOf();
        promise14SumOf();
        promise15ClassOf();
        promise16PeakSum();
        promise17Square();
        promise18ByOrders();
        promise19ByTables();
        promises18And19Agree();
        promise20Count();
        promise21Undo();
        promise21WhatIsKept();
        promise22Type();
        promise23ClearText();
        promise24Fault();
        promise25Read();
        System.out.println(calls + " calls, " + wrong + " wrong");
        if (wrong != 0) {
            System.exit(1);
        }
    }
}
