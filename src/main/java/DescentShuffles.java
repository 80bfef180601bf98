/** Sums of orders of up to five letters, with products, shuffles, classes by descents, texts and undo. */
public final class DescentShuffles {
    public static final int INVALID_ARGUMENT = -10000001;
    public static final int NOT_POSSIBLE = -10000002;
    public static final int LIMIT_REACHED = -10000003;
    public static final int NOT_FOUND = -10000004;

    private static final int MOST_LETTERS = 5;
    private static final int MOST_ORDERS = 120;
    private static final int MOST_SETS = 16;
    private static final int LETTERS_AT_FIRST = 3;
    private static final int SUMS = 3;
    private static final int MOST_FACTOR = 50000;
    private static final int MOST_ADDED = 999;
    private static final int MOST_MULTIPLE = 99;

    private final Orders[] known = new Orders[MOST_LETTERS + 1];
    private final int[][] sums = new int[SUMS][MOST_ORDERS];
    // A change is made here first, so that one that goes beyond the bounds leaves the sums as they were.
    private final long[] made = new long[MOST_ORDERS];
    private final long[] perClass = new long[MOST_SETS];
    private final History history = new History();
    private final SumText text = new SumText();
    private final TermReader reader = new TermReader();
    private final Tables tables = new Tables();
    private Orders orders;

    public DescentShuffles() {
        orders = ordersWith(LETTERS_AT_FIRST);
    }

    // ---- sums

    public int begin(int n) {
        if (!isWithin(n, 1, MOST_LETTERS)) {
            return INVALID_ARGUMENT;
        }
        history.keep(orders.n, sums);
        for (int sum = 0; sum < SUMS; sum++) {
            for (int order = 0; order < MOST_ORDERS; order++) {
                sums[sum][order] = 0;
            }
        }
        orders = ordersWith(n);
        return orders.many;
    }

    public int add(int sum, int order, int factor) {
        if (!isSum(sum) || !isOrder(order) || !isWithin(factor, -MOST_ADDED, MOST_ADDED)) {
            return INVALID_ARGUMENT;
        }
        makeCopyOf(sum);
        made[order] += factor;
        return settle(sum, (int) made[order]);
    }

    public int addClass(int sum, int set, int wide, int factor) {
        if (!isSum(sum) || !isSet(set) || !isWithin(wide, 0, 1) || !isWithin(factor, -MOST_ADDED, MOST_ADDED)) {
            return INVALID_ARGUMENT;
        }
        makeCopyOf(sum);
        int members = 0;
        for (int order = 0; order < orders.many; order++) {
            if (wide == 1 ? orders.isInWideClass(order, set) : orders.descents[order] == set) {
                made[order] += factor;
                members++;
            }
        }
        return settle(sum, members);
    }

    public int clear(int sum) {
        if (!isSum(sum)) {
            return INVALID_ARGUMENT;
        }
        int before = termsIn(sum);
        makeZeros();
        return settle(sum, before);
    }

    public int multiply(int sum, int one, int other) {
        if (!isSum(sum) || !isSum(one) || !isSum(other)) {
            return INVALID_ARGUMENT;
        }
        makeProduct(sums[one], sums[other]);
        return settle(sum, termsMade());
    }

    public int combine(int sum, int one, int first, int other, int second) {
        if (!isSum(sum) || !isSum(one) || !isSum(other)) {
            return INVALID_ARGUMENT;
        }
        if (!isWithin(first, -MOST_MULTIPLE, MOST_MULTIPLE) || !isWithin(second, -MOST_MULTIPLE, MOST_MULTIPLE)) {
            return INVALID_ARGUMENT;
        }
        for (int order = 0; order < orders.many; order++) {
            made[order] = (long) first * sums[one][order] + (long) second * sums[other][order];
        }
        return settle(sum, termsMade());
    }

    public int turn(int sum, int way) {
        if (!isSum(sum) || !isWithin(way, 0, 3)) {
            return INVALID_ARGUMENT;
        }
        int[] before = sums[sum];
        for (int order = 0; order < orders.many; order++) {
            boolean changesSign = way == 3 && orders.parityOf(order) == 1;
            made[orders.turned(order, way)] = changesSign ? -before[order] : before[order];
        }
        int others = 0;
        for (int order = 0; order < orders.many; order++) {
            if (made[order] != before[order]) {
                others++;
            }
        }
        return settle(sum, others);
    }

    public int shuffle(int sum, int k, int one, int other) {
        if (!isSum(sum) || !isWithin(k, 1, orders.n - 1)) {
            return INVALID_ARGUMENT;
        }
        Orders lower = ordersWith(k);
        Orders upper = ordersWith(orders.n - k);
        if (!isWithin(one, 0, lower.many - 1) || !isWithin(other, 0, upper.many - 1)) {
            return INVALID_ARGUMENT;
        }
        makeCopyOf(sum);
        int shuffles = 0;
        for (int order = 0; order < orders.many; order++) {
            if (orders.keepsLower(order, lower, one) && orders.keepsUpper(order, upper, other)) {
                made[order]++;
                shuffles++;
            }
        }
        return settle(sum, shuffles);
    }

    // ---- orders

    public int orderOf(int order, int what) {
        if (!isOrder(order)) {
            return INVALID_ARGUMENT;
        }
        if (isWithin(what, 10, 10 + orders.n - 1)) {
            return orders.letterAt(order, what - 10);
        }
        switch (what) {
            case 0:
                return orders.descents[order];
            case 1:
                return orders.peaks[order];
            case 2:
                return orders.inversions[order];
            case 3:
                return orders.parityOf(order);
            case 4:
                return orders.inverses[order];
            case 5:
                return orders.descentsAddedUp(order);
            case 6:
                return orders.ringsOf(order);
            default:
                return INVALID_ARGUMENT;
        }
    }

    public int product(int one, int other) {
        if (!isOrder(one) || !isOrder(other)) {
            return INVALID_ARGUMENT;
        }
        return orders.times(one, other);
    }

    // ---- what sums are

    public int factor(int sum, int order) {
        if (!isSum(sum) || !isOrder(order)) {
            return INVALID_ARGUMENT;
        }
        return sums[sum][order];
    }

    public int termOf(int sum, int index, int what) {
        if (!isSum(sum) || index < 0 || !isWithin(what, 0, 1)) {
            return INVALID_ARGUMENT;
        }
        int terms = 0;
        for (int order = 0; order < orders.many; order++) {
            if (sums[sum][order] != 0) {
                if (terms == index) {
                    return what == 0 ? order : sums[sum][order];
                }
                terms++;
            }
        }
        return NOT_FOUND;
    }

    public int sumOf(int sum, int what) {
        if (!isSum(sum)) {
            return INVALID_ARGUMENT;
        }
        switch (what) {
            case 0:
                return termsIn(sum);
            case 1:
                return factorsAddedUp(sum);
            case 2:
                return goesByDescents(sum) ? 1 : 0;
            case 3:
                return greatestIn(sum);
            case 4:
                return leastIn(sum);
            default:
                return INVALID_ARGUMENT;
        }
    }

    public int classOf(int sum, int set, int wide) {
        if (!isSum(sum) || !isSet(set) || !isWithin(wide, 0, 1)) {
            return INVALID_ARGUMENT;
        }
        if (!goesByDescents(sum)) {
            return NOT_FOUND;
        }
        if (wide == 0) {
            return sums[sum][orders.firsts[set]];
        }
        for (int each = 0; each < orders.sets; each++) {
            perClass[each] = sums[sum][orders.firsts[each]];
        }
        return wideFactor(set);
    }

    public int peakSum(int sum, int peaks) {
        if (!isSum(sum) || !isWithin(peaks, 0, (1 << orders.n) - 1)) {
            return INVALID_ARGUMENT;
        }
        int total = 0;
        boolean found = false;
        for (int order = 0; order < orders.many; order++) {
            if (orders.peaks[order] == peaks) {
                total += sums[sum][order];
                found = true;
            }
        }
        return found ? total : NOT_FOUND;
    }

    public int square(int sum) {
        if (!isSum(sum)) {
            return INVALID_ARGUMENT;
        }
        int[] factors = sums[sum];
        makeProduct(factors, factors);
        int some = termOf(sum, 0, 0);
        if (!isOrder(some) || factors[some] == 0) {
            return NOT_FOUND;
        }
        // Any order with a factor tells the multiple; a remainder left by the division shows at this order itself.
        long multiple = made[some] / factors[some];
        for (int order = 0; order < orders.many; order++) {
            if (made[order] != multiple * factors[order]) {
                return NOT_FOUND;
            }
        }
        return (int) multiple;
    }

    // ---- products of classes

    public int byOrders(int p, int q, int r) {
        if (!isSet(p) || !isSet(q) || !isSet(r)) {
            return INVALID_ARGUMENT;
        }
        // The product goes by descents, so one order tells the factor of its class.
        for (int set = 0; set < orders.sets; set++) {
            perClass[set] = timesInProduct(p, q, orders.firsts[set]);
        }
        return wideFactor(r);
    }

    public int byTables(int p, int q, int r) {
        if (!isSet(p) || !isSet(q) || r != Tables.ALL && !isSet(r)) {
            return INVALID_ARGUMENT;
        }
        return tables.tell(orders.n, p, q, r);
    }

    public int count(int what) {
        switch (what) {
            case 0:
                return orders.n;
            case 1:
                return orders.many;
            case 2:
                return history.many;
            case 3:
                return text.length;
            default:
                return INVALID_ARGUMENT;
        }
    }

    public int undo() {
        if (history.many == 0) {
            return NOT_POSSIBLE;
        }
        orders = ordersWith(history.takeBack(sums));
        return history.many;
    }

    // ---- texts

    public int type(int character) {
        if (!isWithin(character, 32, 126)) {
            return INVALID_ARGUMENT;
        }
        if (text.isFull()) {
            return LIMIT_REACHED;
        }
        text.append((char) character);
        return text.length;
    }

    public int clearText() {
        int before = text.length;
        text.length = 0;
        return before;
    }

    public int fault() {
        makeZeros();
        int place = reader.addTerms(text, orders, made);
        return place == TermReader.NO_FAULT ? NOT_FOUND : place;
    }

    public int read(int sum) {
        if (!isSum(sum)) {
            return INVALID_ARGUMENT;
        }
        makeCopyOf(sum);
        if (reader.addTerms(text, orders, made) != TermReader.NO_FAULT) {
            return NOT_POSSIBLE;
        }
        return settle(sum, reader.terms);
    }

    private static boolean isWithin(int value, int least, int most) {
        return value >= least && value <= most;
    }

    private static boolean isSum(int sum) {
        return isWithin(sum, 0, SUMS - 1);
    }

    private boolean isOrder(int order) {
        return isWithin(order, 0, orders.many - 1);
    }

    private boolean isSet(int set) {
        return isWithin(set, 0, orders.sets - 1);
    }

    /** n must be 1 to 5. They are kept, since they never change and all objects made in a run are counted. */
    private Orders ordersWith(int n) {
        Orders found = known[n];
        if (found == null) {
            found = new Orders(n);
            known[n] = found;
        }
        return found;
    }

    private void makeZeros() {
        for (int order = 0; order < orders.many; order++) {
            made[order] = 0;
        }
    }

    private void makeCopyOf(int sum) {
        for (int order = 0; order < orders.many; order++) {
            made[order] = sums[sum][order];
        }
    }

    private void makeProduct(int[] one, int[] other) {
        makeZeros();
        for (int u = 0; u < orders.many; u++) {
            if (one[u] != 0) {
                for (int v = 0; v < orders.many; v++) {
                    made[orders.times(u, v)] += (long) one[u] * other[v];
                }
            }
        }
    }

    /** Ends a change: what was made becomes the sum, unless a factor is too great. */
    private int settle(int sum, int answer) {
        for (int order = 0; order < orders.many; order++) {
            if (made[order] < -MOST_FACTOR || made[order] > MOST_FACTOR) {
                return LIMIT_REACHED;
            }
        }
        history.keep(orders.n, sums);
        for (int order = 0; order < orders.many; order++) {
            sums[sum][order] = (int) made[order];
        }
        return answer;
    }

    private int termsMade() {
        int terms = 0;
        for (int order = 0; order < orders.many; order++) {
            if (made[order] != 0) {
                terms++;
            }
        }
        return terms;
    }

    private int termsIn(int sum) {
        int terms = 0;
        for (int order = 0; order < orders.many; order++) {
            if (sums[sum][order] != 0) {
                terms++;
            }
        }
        return terms;
    }

    private int factorsAddedUp(int sum) {
        int total = 0;
        for (int order = 0; order < orders.many; order++) {
            total += sums[sum][order];
        }
        return total;
    }

    private int greatestIn(int sum) {
        int greatest = sums[sum][0];
        for (int order = 1; order < orders.many; order++) {
            greatest = Math.max(greatest, sums[sum][order]);
        }
        return greatest;
    }

    private int leastIn(int sum) {
        int least = sums[sum][0];
        for (int order = 1; order < orders.many; order++) {
            least = Math.min(least, sums[sum][order]);
        }
        return least;
    }

    private boolean goesByDescents(int sum) {
        for (int order = 0; order < orders.many; order++) {
            if (sums[sum][order] != sums[sum][orders.firsts[orders.descents[order]]]) {
                return false;
            }
        }
        return true;
    }

    /**
     * The factor of a class is that of all wide classes around it added up, so the factor of a wide
     * class is that of all classes around it with changing signs.
     */
    private int wideFactor(int set) {
        long total = 0;
        for (int around = 0; around < orders.sets; around++) {
            if ((around & set) == set) {
                boolean isOdd = (Integer.bitCount(around ^ set) & 1) == 1;
                total += isOdd ? -perClass[around] : perClass[around];
            }
        }
        return (int) total;
    }

    private int timesInProduct(int p, int q, int order) {
        int times = 0;
        for (int v = 0; v < orders.many; v++) {
            if (orders.isInWideClass(v, q) && orders.isInWideClass(orders.times(order, orders.inverses[v]), p)) {
                times++;
            }
        }
        return times;
    }

    /** All orders of n letters by their numbers, with what is asked of them most. */
    private static final class Orders {
        final int n;
        final int many;
        final int sets;
        final int[] descents;
        final int[] peaks;
        final int[] inversions;
        final int[] inverses;
        /** The first order of each class. */
        final int[] firsts;
        private final int[] letters;
        private final int[] products;
        private final int[] row;

        /** n must be 1 to 5. */
        Orders(int n) {
            this.n = n;
            int orderCount = 1;
            for (int k = 2; k <= n; k++) {
                orderCount *= k;
            }
            many = orderCount;
            sets = 1 << (n - 1);
            descents = new int[many];
            peaks = new int[many];
            inversions = new int[many];
            inverses = new int[many];
            firsts = new int[sets];
            letters = new int[many * n];
            products = new int[many * many];
            row = new int[n];
            for (int order = many - 1; order >= 0; order--) {
                spell(order);
                describe(order);
                // From the last order to the first one: the first of each class stays.
                firsts[descents[order]] = order;
            }
            fillProducts();
        }

        int letterAt(int order, int place) {
            return letters[order * n + place];
        }

        int times(int one, int other) {
            return products[one * many + other];
        }

        int parityOf(int order) {
            return inversions[order] & 1;
        }

        boolean isInWideClass(int order, int set) {
            return (descents[order] & ~set) == 0;
        }

        int descentsAddedUp(int order) {
            int total = 0;
            for (int place = 0; place < n - 1; place++) {
                if ((descents[order] >> place & 1) == 1) {
                    total += place + 1;
                }
            }
            return total;
        }

        int ringsOf(int order) {
            int seen = 0;
            int rings = 0;
            for (int start = 0; start < n; start++) {
                if ((seen >> start & 1) == 0) {
                    rings++;
                }
                int place = start;
                for (int step = 0; step < n; step++) {
                    seen |= 1 << place;
                    place = letterAt(order, place) - 1;
                }
            }
            return rings;
        }

        /** Where the factor of an order goes when a sum is turned. */
        int turned(int order, int way) {
            if (way == 0) {
                return inverses[order];
            }
            if (way == 3) {
                return order;
            }
            for (int place = 0; place < n; place++) {
                row[place] = way == 1 ? letterAt(order, n - 1 - place) : n + 1 - letterAt(order, place);
            }
            return numberOf(row, n);
        }

        /** Whether the letters that the lower orders have come as in one of these. */
        boolean keepsLower(int order, Orders lower, int one) {
            int next = 0;
            for (int place = 0; place < n; place++) {
                int letter = letterAt(order, place);
                if (letter <= lower.n) {
                    if (letter != lower.letterAt(one, next)) {
                        return false;
                    }
                    next++;
                }
            }
            return true;
        }

        /** Whether the greatest letters, as many as the upper orders have, come as in one of these. */
        boolean keepsUpper(int order, Orders upper, int other) {
            int below = n - upper.n;
            int next = 0;
            for (int place = 0; place < n; place++) {
                int letter = letterAt(order, place) - below;
                if (letter > 0) {
                    if (letter != upper.letterAt(other, next)) {
                        return false;
                    }
                    next++;
                }
            }
            return true;
        }

        /** The number, as in a dictionary, of the order that stands in the first n elements of a row. */
        static int numberOf(int[] row, int n) {
            int number = 0;
            for (int place = 0; place < n; place++) {
                number = number * (n - place) + smallerBehind(row, n, place);
            }
            return number;
        }

        private static int smallerBehind(int[] row, int n, int place) {
            int smaller = 0;
            for (int behind = place + 1; behind < n; behind++) {
                if (row[behind] < row[place]) {
                    smaller++;
                }
            }
            return smaller;
        }

        private void spell(int order) {
            int rest = order;
            for (int place = n - 1; place >= 0; place--) {
                // n - place is at least 1 here.
                int letter = rest % (n - place) + 1;
                rest /= n - place;
                row[place] = letter;
                for (int behind = place + 1; behind < n; behind++) {
                    if (row[behind] >= letter) {
                        row[behind]++;
                    }
                }
            }
            for (int place = 0; place < n; place++) {
                letters[order * n + place] = row[place];
            }
        }

        private void describe(int order) {
            int descentSet = 0;
            int peakSet = 0;
            int pairs = 0;
            for (int place = 0; place < n; place++) {
                pairs += smallerBehind(row, n, place);
                if (place < n - 1 && row[place] > row[place + 1]) {
                    descentSet |= 1 << place;
                    if (place > 0 && row[place] > row[place - 1]) {
                        peakSet |= 1 << place;
                    }
                }
            }
            descents[order] = descentSet;
            peaks[order] = peakSet;
            inversions[order] = pairs;
            for (int place = 0; place < n; place++) {
                row[letterAt(order, place) - 1] = place + 1;
            }
            inverses[order] = numberOf(row, n);
        }

        /**
         * Two neighbours exchanged in an order are exchanged in each product u * order too. So the
         * products with an order come from those with a lower one, which spares numbering each of them.
         */
        private void fillProducts() {
            int places = n - 1;
            int[] exchanged = new int[many * places];
            for (int order = 0; order < many; order++) {
                for (int place = 0; place < places; place++) {
                    exchanged[order * places + place] = withExchanged(order, place);
                }
                products[order * many] = order;
            }
            // Only the order 0 has no descent; without a descent that it has, any other one is lower.
            for (int order = 1; order < many; order++) {
                int place = firstDescent(order);
                int lower = exchanged[order * places + place];
                for (int u = 0; u < many; u++) {
                    products[u * many + order] = exchanged[times(u, lower) * places + place];
                }
            }
        }

        private int withExchanged(int order, int place) {
            for (int each = 0; each < n; each++) {
                row[each] = letterAt(order, each);
            }
            row[place] = letterAt(order, place + 1);
            row[place + 1] = letterAt(order, place);
            return numberOf(row, n);
        }

        private int firstDescent(int order) {
            for (int place = 0; place < n - 1; place++) {
                if ((descents[order] >> place & 1) == 1) {
                    return place;
                }
            }
            return 0;
        }
    }

    /** The latest states, of which a new one takes the place of the oldest one. */
    private static final class History {
        private static final int MOST = 4;

        int many = 0;
        private int next = 0;
        private final int[] lengths = new int[MOST];
        private final int[][] factors = new int[MOST][SUMS * MOST_ORDERS];

        void keep(int n, int[][] sums) {
            lengths[next] = n;
            for (int sum = 0; sum < SUMS; sum++) {
                System.arraycopy(sums[sum], 0, factors[next], sum * MOST_ORDERS, MOST_ORDERS);
            }
            next = (next + 1) % MOST;
            many = Math.min(many + 1, MOST);
        }

        /** Puts the latest state's factors back and returns its n; there must be one. */
        int takeBack(int[][] sums) {
            next = (next + MOST - 1) % MOST;
            many--;
            for (int sum = 0; sum < SUMS; sum++) {
                System.arraycopy(factors[next], sum * MOST_ORDERS, sums[sum], 0, MOST_ORDERS);
            }
            return lengths[next];
        }
    }

    /** The text that is typed. */
    private static final class SumText {
        private static final int MOST = 60;

        int length = 0;
        private final char[] signs = new char[MOST];

        boolean isFull() {
            return length >= MOST;
        }

        void append(char sign) {
            signs[length] = sign;
            length++;
        }

        char signAt(int index) {
            return signs[index];
        }
    }

    /** Goes through a text sign by sign, as far as each can stand at its place. */
    private static final class TermReader {
        static final int NO_FAULT = -1;

        private static final int AHEAD_OF_ALL = 0;
        private static final int BEHIND_SIGN = 1;
        private static final int IN_NUMBER = 2;
        private static final int BEHIND_STAR = 3;
        private static final int IN_ORDER = 4;
        private static final int BEHIND_ORDER = 5;
        private static final int MOST_DIGITS = 3;

        int terms = 0;
        private int n = 1;
        private int stage = AHEAD_OF_ALL;
        private boolean isMinus = false;
        private int number = 1;
        private int digits = 0;
        private int used = 0;
        private int taken = 0;
        private final int[] row = new int[MOST_LETTERS];

        /** Adds the terms ahead of the fault to the factors; returns the place of the fault, or NO_FAULT. */
        int addTerms(SumText text, Orders orders, long[] factors) {
            n = orders.n;
            terms = 0;
            beginTerm(AHEAD_OF_ALL, false);
            for (int index = 0; index < text.length; index++) {
                if (!takes(text.signAt(index))) {
                    return index;
                }
                if (stage == BEHIND_ORDER) {
                    factors[Orders.numberOf(row, n)] += isMinus ? -number : number;
                    terms++;
                }
            }
            return stage == BEHIND_ORDER ? NO_FAULT : text.length;
        }

        private void beginTerm(int newStage, boolean withMinus) {
            stage = newStage;
            isMinus = withMinus;
            number = 1;
            digits = 0;
            used = 0;
            taken = 0;
        }

        private boolean takes(char sign) {
            if (sign == '+' || sign == '-') {
                return takesSign(sign == '-');
            }
            if (sign >= '0' && sign <= '9') {
                return takesDigit(sign - '0');
            }
            if (sign == '*') {
                return takesStar();
            }
            return sign >= 'a' && sign < 'a' + n && takesLetter(sign - 'a');
        }

        private boolean takesSign(boolean withMinus) {
            if (stage != BEHIND_ORDER && !(stage == AHEAD_OF_ALL && withMinus)) {
                return false;
            }
            beginTerm(BEHIND_SIGN, withMinus);
            return true;
        }

        private boolean takesDigit(int digit) {
            if (stage == AHEAD_OF_ALL || stage == BEHIND_SIGN) {
                if (digit == 0) {
                    return false;
                }
                stage = IN_NUMBER;
                number = 0;
            }
            if (stage != IN_NUMBER || digits == MOST_DIGITS) {
                return false;
            }
            number = number * 10 + digit;
            digits++;
            return true;
        }

        private boolean takesStar() {
            if (stage != IN_NUMBER) {
                return false;
            }
            stage = BEHIND_STAR;
            return true;
        }

        private boolean takesLetter(int letter) {
            boolean isUsed = (used >> letter & 1) == 1;
            if (stage == IN_NUMBER || stage == BEHIND_ORDER || isUsed || taken >= n) {
                return false;
            }
            used |= 1 << letter;
            row[taken] = letter + 1;
            taken++;
            stage = taken == n ? BEHIND_ORDER : IN_ORDER;
            return true;
        }
    }

    /** Counts tables cell by cell, row by row, with what is left to each row and column. */
    private static final class Tables {
        static final int ALL = -1;

        private int n = 1;
        private int across = 1;
        private int down = 1;
        private int wanted = ALL;
        private final int[] rows = new int[MOST_LETTERS];
        private final int[] columns = new int[MOST_LETTERS];

        int tell(int letters, int p, int q, int r) {
            n = letters;
            across = cut(letters, p, columns);
            down = cut(letters, q, rows);
            wanted = r;
            return ways(this, 0, 0, 0, 0);
        }

        /** Writes the parts of a set of descents; returns how many they are. */
        private static int cut(int n, int set, int[] parts) {
            int many = 0;
            int length = 0;
            for (int place = 0; place < n; place++) {
                length++;
                if (place == n - 1 || (set >> place & 1) == 1) {
                    parts[many] = length;
                    many++;
                    length = 0;
                }
            }
            return many;
        }

        /**
         * Counts how the cells from this one on can be filled. The numbers ahead of it come to told in
         * all, and their parts are those of the set cuts. The row and the column bound the depth.
         */
        private static int ways(Tables tables, int row, int column, int told, int cuts) {
            if (row < 0 || row >= tables.down) {
                return tables.wanted == ALL || tables.wanted == cuts ? 1 : 0;
            }
            if (column < 0 || column >= tables.across) {
                return tables.rows[row] == 0 ? ways(tables, row + 1, 0, told, cuts) : 0;
            }
            int total = 0;
            int most = Math.min(tables.rows[row], tables.columns[column]);
            for (int number = 0; number <= most; number++) {
                tables.rows[row] -= number;
                tables.columns[column] -= number;
                total += ways(tables, row, column + 1, told + number, withCut(tables.n, told + number, cuts));
                tables.rows[row] += number;
                tables.columns[column] += number;
            }
            return total;
        }

        /** A part that ends behind so many places cuts there, unless it is the last one; 0 adds no part. */
        private static int withCut(int n, int told, int cuts) {
            return told > 0 && told < n ? cuts | 1 << (told - 1) : cuts;
        }
    }
}
