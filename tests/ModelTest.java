import java.util.ArrayDeque;
import java.util.ArrayList;
import java.util.Arrays;
import java.util.Deque;
import java.util.HashMap;
import java.util.List;
import java.util.Map;
import java.util.Random;
import java.util.TreeSet;

/**
 * Long runs of calls on the program and on a model of it, which must answer alike. The model is
 * written after the document with the Java library and by other ways than the program's.
 */
public final class ModelTest {
    private static final int INVALID = -10000001;
    private static final int NOT_POSSIBLE = -10000002;
    private static final int LIMIT = -10000003;
    private static final int NOT_FOUND = -10000004;
    private static final int RUNS = 400;
    private static final int CALLS = 512;
    private static final String[] NAMES = {
        "begin", "add", "addClass", "clear", "multiply", "combine", "turn", "shuffle", "orderOf", "product", "factor",
        "termOf", "sumOf", "classOf", "peakSum", "square", "byOrders", "byTables", "count", "undo", "type", "clearText",
        "fault", "read"};
    private static final int[] PARAMETERS = {1, 3, 4, 1, 3, 5, 2, 4, 2, 2, 2, 3, 2, 3, 2, 1, 3, 3, 1, 0, 1, 0, 0, 1};

    /** What a state is: n and a factor for each order, told by its letters. */
    private record State(int n, List<Map<String, Long>> sums) {
        static State of(int n) {
            List<Map<String, Long>> sums = new ArrayList<>();
            for (int i = 0; i < 3; i++) {
                sums.add(new HashMap<>());
            }
            return new State(n, sums);
        }

        State copy() {
            List<Map<String, Long>> copies = new ArrayList<>();
            for (Map<String, Long> sum : sums) {
                copies.add(new HashMap<>(sum));
            }
            return new State(n, copies);
        }
    }

    private static final class Model {
        private static final Map<Integer, List<String>> ORDERS = new HashMap<>();
        private State state = State.of(3);
        private final Deque<State> history = new ArrayDeque<>();
        private String text = "";

        static List<String> orders(int n) {
            return ORDERS.computeIfAbsent(n, k -> {
                TreeSet<String> all = new TreeSet<>(List.of(""));
                for (int i = 0; i < k; i++) {
                    TreeSet<String> longer = new TreeSet<>();
                    for (String order : all) {
                        for (char c = 'a'; c < 'a' + k; c++) {
                            if (order.indexOf(c) < 0) {
                                longer.add(order + c);
                            }
                        }
                    }
                    all = longer;
                }
                return new ArrayList<>(all);
            });
        }

        private List<String> orders() {
            return orders(state.n);
        }

        private boolean isOrder(int order) {
            return order >= 0 && order < orders().size();
        }

        private static boolean isSum(int... sums) {
            return Arrays.stream(sums).allMatch(sum -> sum == 0 || sum == 1 || sum == 2);
        }

        private boolean areSets(int... sets) {
            return Arrays.stream(sets).allMatch(set -> set >= 0 && set < Math.pow(2, state.n - 1));
        }

        private static boolean in(int value, int bound) {
            return value >= -bound && value <= bound;
        }

        private long at(int sum, String order) {
            return state.sums.get(sum).getOrDefault(order, 0L);
        }

        private int terms(int sum) {
            return (int) orders().stream().filter(order -> at(sum, order) != 0).count();
        }

        static int descents(String order) {
            int set = 0;
            for (int k = 0; k + 1 < order.length(); k++) {
                set += order.charAt(k) > order.charAt(k + 1) ? Math.pow(2, k) : 0;
            }
            return set;
        }

        static int peaks(String order) {
            int set = 0;
            for (int k = 1; k + 1 < order.length(); k++) {
                boolean isPeak = order.charAt(k) > order.charAt(k + 1) && order.charAt(k) > order.charAt(k - 1);
                set += isPeak ? Math.pow(2, k) : 0;
            }
            return set;
        }

        static int inversions(String order) {
            int pairs = 0;
            for (int i = 0; i < order.length(); i++) {
                for (int j = i + 1; j < order.length(); j++) {
                    pairs += order.charAt(i) > order.charAt(j) ? 1 : 0;
                }
            }
            return pairs;
        }

        static String inverse(String order) {
            StringBuilder inverse = new StringBuilder();
            for (int k = 0; k < order.length(); k++) {
                inverse.append((char) ('a' + order.indexOf('a' + k)));
            }
            return inverse.toString();
        }

        static String product(String u, String v) {
            StringBuilder product = new StringBuilder();
            for (char c : v.toCharArray()) {
                product.append(u.charAt(c - 'a'));
            }
            return product.toString();
        }

        static int rings(String order) {
            TreeSet<String> rings = new TreeSet<>();
            for (int k = 0; k < order.length(); k++) {
                TreeSet<Integer> ring = new TreeSet<>();
                for (int place = k; ring.add(place); place = order.charAt(place) - 'a') {
                    continue;
                }
                rings.add(ring.toString());
            }
            return rings.size();
        }

        /** Does a change unless a factor is beyond the bounds. */
        private int change(State next, int answer) {
            for (Map<String, Long> sum : next.sums) {
                for (long factor : sum.values()) {
                    if (Math.abs(factor) > 50000) {
                        return LIMIT;
                    }
                }
            }
            history.addLast(state);
            if (history.size() > 4) {
                history.removeFirst();
            }
            state = next;
            return answer;
        }

        private int make(int sum, Map<String, Long> factors, int answer) {
            State next = state.copy();
            next.sums.set(sum, factors);
            return change(next, answer);
        }

        private static int nonzero(Map<String, Long> sum) {
            return (int) sum.values().stream().filter(factor -> factor != 0).count();
        }

        private static Map<String, Long> times(Map<String, Long> one, Map<String, Long> other) {
            Map<String, Long> product = new HashMap<>();
            one.forEach((u, f) -> other.forEach((v, g) -> {
                if (f != 0 && g != 0) {
                    product.merge(product(u, v), f * g, Long::sum);
                }
            }));
            return product;
        }

        private Map<String, Long> classSum(int set, boolean wide) {
            Map<String, Long> sum = new HashMap<>();
            for (String order : orders()) {
                if (wide ? (descents(order) | set) == set : descents(order) == set) {
                    sum.put(order, 1L);
                }
            }
            return sum;
        }

        private int begin(int n) {
            return n < 1 || n > 5 ? INVALID : change(State.of(n), orders(n).size());
        }

        private int add(int sum, int order, int factor) {
            if (!isSum(sum) || !isOrder(order) || !in(factor, 999)) {
                return INVALID;
            }
            Map<String, Long> factors = new HashMap<>(state.sums.get(sum));
            long then = factors.merge(orders().get(order), (long) factor, Long::sum);
            return make(sum, factors, (int) then);
        }

        private int addClass(int sum, int set, int wide, int factor) {
            if (!isSum(sum) || !areSets(set) || wide != 0 && wide != 1 || !in(factor, 999)) {
                return INVALID;
            }
            Map<String, Long> factors = new HashMap<>(state.sums.get(sum));
            Map<String, Long> members = classSum(set, wide == 1);
            members.keySet().forEach(order -> factors.merge(order, (long) factor, Long::sum));
            return make(sum, factors, members.size());
        }

        private int clear(int sum) {
            return !isSum(sum) ? INVALID : make(sum, new HashMap<>(), terms(sum));
        }

        private int multiply(int sum, int one, int other) {
            if (!isSum(sum, one, other)) {
                return INVALID;
            }
            Map<String, Long> product = times(state.sums.get(one), state.sums.get(other));
            return make(sum, product, nonzero(product));
        }

        private int combine(int sum, int one, int first, int other, int second) {
            if (!isSum(sum, one, other) || !in(first, 99) || !in(second, 99)) {
                return INVALID;
            }
            Map<String, Long> combined = new HashMap<>();
            for (String order : orders()) {
                combined.put(order, first * at(one, order) + second * at(other, order));
            }
            return make(sum, combined, nonzero(combined));
        }

        private int turn(int sum, int way) {
            if (!isSum(sum) || way < 0 || way > 3) {
                return INVALID;
            }
            Map<String, Long> turned = new HashMap<>();
            for (String order : orders()) {
                if (way == 0) {
                    turned.put(inverse(order), at(sum, order));
                } else if (way == 1) {
                    turned.put(new StringBuilder(order).reverse().toString(), at(sum, order));
                } else if (way == 2) {
                    StringBuilder other = new StringBuilder();
                    order.chars().forEach(c -> other.append((char) ('a' + state.n - 1 - (c - 'a'))));
                    turned.put(other.toString(), at(sum, order));
                } else {
                    turned.put(order, inversions(order) % 2 == 1 ? -at(sum, order) : at(sum, order));
                }
            }
            long others = orders().stream().filter(order -> turned.get(order) != at(sum, order)).count();
            return make(sum, turned, (int) others);
        }

        private static void shuffles(String made, String one, String other, List<String> all) {
            if (one.isEmpty() && other.isEmpty()) {
                all.add(made);
            }
            if (!one.isEmpty()) {
                shuffles(made + one.charAt(0), one.substring(1), other, all);
            }
            if (!other.isEmpty()) {
                shuffles(made + other.charAt(0), one, other.substring(1), all);
            }
        }

        private int shuffle(int sum, int k, int one, int other) {
            if (!isSum(sum) || k < 1 || k > state.n - 1 || one < 0 || one >= orders(k).size()
                    || other < 0 || other >= orders(state.n - k).size()) {
                return INVALID;
            }
            StringBuilder raised = new StringBuilder();
            orders(state.n - k).get(other).chars().forEach(c -> raised.append((char) (c + k)));
            List<String> all = new ArrayList<>();
            shuffles("", orders(k).get(one), raised.toString(), all);
            Map<String, Long> factors = new HashMap<>(state.sums.get(sum));
            all.forEach(order -> factors.merge(order, 1L, Long::sum));
            return make(sum, factors, all.size());
        }

        private int orderOf(int order, int what) {
            if (!isOrder(order) || what < 0 || what > 6 && what < 10 || what >= 10 + state.n) {
                return INVALID;
            }
            String letters = orders().get(order);
            if (what >= 10) {
                return letters.charAt(what - 10) - 'a' + 1;
            }
            int places = 0;
            for (int k = 0; k + 1 < state.n; k++) {
                places += letters.charAt(k) > letters.charAt(k + 1) ? k + 1 : 0;
            }
            int[] all = {descents(letters), peaks(letters), inversions(letters), inversions(letters) % 2,
                orders().indexOf(inverse(letters)), places, rings(letters)};
            return all[what];
        }

        private int product(int one, int other) {
            boolean valid = isOrder(one) && isOrder(other);
            return valid ? orders().indexOf(product(orders().get(one), orders().get(other))) : INVALID;
        }

        private int factor(int sum, int order) {
            return !isSum(sum) || !isOrder(order) ? INVALID : (int) at(sum, orders().get(order));
        }

        private int termOf(int sum, int index, int what) {
            if (!isSum(sum) || index < 0 || what != 0 && what != 1) {
                return INVALID;
            }
            List<String> terms = orders().stream().filter(order -> at(sum, order) != 0).toList();
            if (index >= terms.size()) {
                return NOT_FOUND;
            }
            String order = terms.get(index);
            return what == 0 ? orders().indexOf(order) : (int) at(sum, order);
        }

        private boolean byDescents(int sum) {
            Map<Integer, Long> seen = new HashMap<>();
            for (String order : orders()) {
                Long before = seen.put(descents(order), at(sum, order));
                if (before != null && before != at(sum, order)) {
                    return false;
                }
            }
            return true;
        }

        private int sumOf(int sum, int what) {
            if (!isSum(sum) || what < 0 || what > 4) {
                return INVALID;
            }
            long[] all = orders().stream().mapToLong(order -> at(sum, order)).sorted().toArray();
            return switch (what) {
                case 0 -> terms(sum);
                case 1 -> (int) Arrays.stream(all).sum();
                case 2 -> byDescents(sum) ? 1 : 0;
                case 3 -> (int) all[all.length - 1];
                default -> (int) all[0];
            };
        }

        /** Takes the wide classes off, the widest one first; what is left then must be nothing. */
        private long wideFactor(Map<String, Long> sum, int wanted) {
            Map<String, Long> rest = new HashMap<>(sum);
            long answer = 0;
            for (int set = (1 << (state.n - 1)) - 1; set >= 0; set--) {
                int here = set;
                String some = orders().stream().filter(order -> descents(order) == here).findFirst().orElseThrow();
                long factor = rest.getOrDefault(some, 0L);
                classSum(set, true).keySet().forEach(order -> rest.merge(order, -factor, Long::sum));
                answer = set == wanted ? factor : answer;
            }
            if (nonzero(rest) != 0) {
                throw new IllegalStateException("does not go by descents");
            }
            return answer;
        }

        private int classOf(int sum, int set, int wide) {
            if (!isSum(sum) || !areSets(set) || wide != 0 && wide != 1) {
                return INVALID;
            }
            if (!byDescents(sum)) {
                return NOT_FOUND;
            }
            if (wide == 1) {
                return (int) wideFactor(state.sums.get(sum), set);
            }
            return (int) at(sum, classSum(set, false).keySet().iterator().next());
        }

        private int peakSum(int sum, int peaks) {
            if (!isSum(sum) || peaks < 0 || peaks >= 1 << state.n) {
                return INVALID;
            }
            List<String> with = orders().stream().filter(order -> peaks(order) == peaks).toList();
            return with.isEmpty() ? NOT_FOUND : (int) with.stream().mapToLong(order -> at(sum, order)).sum();
        }

        private int square(int sum) {
            if (!isSum(sum)) {
                return INVALID;
            }
            Map<String, Long> product = times(state.sums.get(sum), state.sums.get(sum));
            Long multiple = null;
            for (String order : orders()) {
                long factor = at(sum, order);
                long squared = product.getOrDefault(order, 0L);
                if (factor == 0 ? squared != 0 : squared % factor != 0) {
                    return NOT_FOUND;
                }
                if (factor != 0) {
                    if (multiple != null && multiple != squared / factor) {
                        return NOT_FOUND;
                    }
                    multiple = squared / factor;
                }
            }
            return multiple == null ? NOT_FOUND : Math.toIntExact(multiple);
        }

        private int byOrders(int p, int q, int r) {
            if (!areSets(p, q, r)) {
                return INVALID;
            }
            return (int) wideFactor(times(classSum(p, true), classSum(q, true)), r);
        }

        private List<Integer> parts(int set) {
            List<Integer> parts = new ArrayList<>(List.of(1));
            for (int k = 0; k + 1 < state.n; k++) {
                if ((set & 1 << k) != 0) {
                    parts.add(1);
                } else {
                    parts.set(parts.size() - 1, parts.get(parts.size() - 1) + 1);
                }
            }
            return parts;
        }

        /** All rows of so many numbers that come to a sum. */
        private static List<List<Integer>> rows(int sum, int length) {
            List<List<Integer>> all = new ArrayList<>();
            if (length == 0) {
                return sum == 0 ? List.of(List.of()) : all;
            }
            for (int last = 0; last <= sum; last++) {
                for (List<Integer> row : rows(sum - last, length - 1)) {
                    List<Integer> longer = new ArrayList<>(row);
                    longer.add(last);
                    all.add(longer);
                }
            }
            return all;
        }

        private int byTables(int p, int q, int r) {
            if (!areSets(p, q) || r != -1 && !areSets(r)) {
                return INVALID;
            }
            List<Integer> across = parts(p);
            List<List<Integer>> tables = List.of(List.of());
            for (int part : parts(q)) {
                List<List<Integer>> longer = new ArrayList<>();
                for (List<Integer> table : tables) {
                    for (List<Integer> row : rows(part, across.size())) {
                        List<Integer> next = new ArrayList<>(table);
                        next.addAll(row);
                        if (fits(next, across)) {
                            longer.add(next);
                        }
                    }
                }
                tables = longer;
            }
            return (int) tables.stream().filter(t -> r == -1
                || t.stream().filter(number -> number > 0).toList().equals(parts(r))).count();
        }

        private static boolean fits(List<Integer> table, List<Integer> across) {
            for (int column = 0; column < across.size(); column++) {
                int sum = 0;
                for (int i = column; i < table.size(); i += across.size()) {
                    sum += table.get(i);
                }
                if (sum > across.get(column)) {
                    return false;
                }
            }
            return true;
        }

        private int count(int what) {
            return switch (what) {
                case 0 -> state.n;
                case 1 -> orders().size();
                case 2 -> history.size();
                case 3 -> text.length();
                default -> INVALID;
            };
        }

        private int undo() {
            if (history.isEmpty()) {
                return NOT_POSSIBLE;
            }
            state = history.removeLast();
            return history.size();
        }

        private int type(int character) {
            if (character < 32 || character > 126) {
                return INVALID;
            }
            if (text.length() == 60) {
                return LIMIT;
            }
            text += (char) character;
            return text.length();
        }

        private int clearText() {
            int length = text.length();
            text = "";
            return length;
        }

        /** The terms of a text, each with the sign ahead of it, or null if it has a fault. */
        private List<String> termsOf(String of) {
            String signed = of.startsWith("-") ? of : "+" + of;
            List<String> terms = new ArrayList<>();
            for (String term : signed.split("(?=[+-])", -1)) {
                if (!term.matches("[+-]([1-9][0-9]?[0-9]?\\*)?[a-z]+")) {
                    return null;
                }
                if (!orders().contains(term.replaceAll("[^a-z]", ""))) {
                    return null;
                }
                terms.add(term);
            }
            return terms.isEmpty() ? null : terms;
        }

        /** Whether some text that begins so has no fault; the last term alone is not whole. */
        private boolean canBegin(String head) {
            List<String> ends = new ArrayList<>(List.of(""));
            orders().forEach(order -> {
                ends.add("*" + order);
                for (int k = 0; k < state.n; k++) {
                    ends.add(order.substring(k));
                }
            });
            return ends.stream().anyMatch(end -> termsOf(head + end) != null);
        }

        private int fault() {
            for (int i = 0; i < text.length(); i++) {
                if (!canBegin(text.substring(0, i + 1))) {
                    return i;
                }
            }
            return termsOf(text) == null ? text.length() : NOT_FOUND;
        }

        private int read(int sum) {
            if (!isSum(sum)) {
                return INVALID;
            }
            List<String> terms = termsOf(text);
            if (terms == null) {
                return NOT_POSSIBLE;
            }
            Map<String, Long> factors = new HashMap<>(state.sums.get(sum));
            for (String term : terms) {
                String order = term.replaceAll("[^a-z]", "");
                String number = term.replaceAll("[^0-9]", "");
                long factor = number.isEmpty() ? 1 : Long.parseLong(number);
                factors.merge(order, term.startsWith("-") ? -factor : factor, Long::sum);
            }
            return make(sum, factors, terms.size());
        }

        int call(String name, int[] a) {
            return switch (name) {
                case "begin" -> begin(a[0]);
                case "add" -> add(a[0], a[1], a[2]);
                case "addClass" -> addClass(a[0], a[1], a[2], a[3]);
                case "clear" -> clear(a[0]);
                case "multiply" -> multiply(a[0], a[1], a[2]);
                case "combine" -> combine(a[0], a[1], a[2], a[3], a[4]);
                case "turn" -> turn(a[0], a[1]);
                case "shuffle" -> shuffle(a[0], a[1], a[2], a[3]);
                case "orderOf" -> orderOf(a[0], a[1]);
                case "product" -> product(a[0], a[1]);
                case "factor" -> factor(a[0], a[1]);
                case "termOf" -> termOf(a[0], a[1], a[2]);
                case "sumOf" -> sumOf(a[0], a[1]);
                case "classOf" -> classOf(a[0], a[1], a[2]);
                case "peakSum" -> peakSum(a[0], a[1]);
                case "square" -> square(a[0]);
                case "byOrders" -> byOrders(a[0], a[1], a[2]);
                case "byTables" -> byTables(a[0], a[1], a[2]);
                case "count" -> count(a[0]);
                case "undo" -> undo();
                case "type" -> type(a[0]);
                case "clearText" -> clearText();
                case "fault" -> fault();
                default -> read(a[0]);
            };
        }
    }

    private static int call(DescentShuffles x, String name, int[] a) {
        return switch (name) {
            case "begin" -> x.begin(a[0]);
            case "add" -> x.add(a[0], a[1], a[2]);
            case "addClass" -> x.addClass(a[0], a[1], a[2], a[3]);
            case "clear" -> x.clear(a[0]);
            case "multiply" -> x.multiply(a[0], a[1], a[2]);
            case "combine" -> x.combine(a[0], a[1], a[2], a[3], a[4]);
            case "turn" -> x.turn(a[0], a[1]);
            case "shuffle" -> x.shuffle(a[0], a[1], a[2], a[3]);
            case "orderOf" -> x.orderOf(a[0], a[1]);
            case "product" -> x.product(a[0], a[1]);
            case "factor" -> x.factor(a[0], a[1]);
            case "termOf" -> x.termOf(a[0], a[1], a[2]);
            case "sumOf" -> x.sumOf(a[0], a[1]);
            case "classOf" -> x.classOf(a[0], a[1], a[2]);
            case "peakSum" -> x.peakSum(a[0], a[1]);
            case "square" -> x.square(a[0]);
            case "byOrders" -> x.byOrders(a[0], a[1], a[2]);
            case "byTables" -> x.byTables(a[0], a[1], a[2]);
            case "count" -> x.count(a[0]);
            case "undo" -> x.undo();
            case "type" -> x.type(a[0]);
            case "clearText" -> x.clearText();
            case "fault" -> x.fault();
            default -> x.read(a[0]);
        };
    }

    /** One run: the same calls on both. */
    private static final class Run {
        private final Random random;
        private final int number;
        private final Model model = new Model();
        private final DescentShuffles x = new DescentShuffles();
        private final StringBuilder told = new StringBuilder();
        private final Map<String, Integer> answers;
        private int calls = 0;
        private boolean agree = true;

        Run(int number, Map<String, Integer> answers) {
            this.number = number;
            this.answers = answers;
            random = new Random(number);
        }

        private void both(String name, int... arguments) {
            if (!agree || calls >= CALLS) {
                return;
            }
            calls++;
            int want = model.call(name, arguments);
            int got = call(x, name, arguments);
            told.append(name).append(Arrays.toString(arguments)).append(" = ").append(want).append('\n');
            answers.merge(name + (want <= INVALID + 3 && want >= NOT_FOUND ? " " + want : ""), 1, Integer::sum);
            if (got != want) {
                agree = false;
                System.out.println(told + "run " + number + ": the last one answered " + got);
            }
        }

        private int argument(String name, int index) {
            int n = model.state.n;
            if (random.nextInt(60) == 0) {
                int[] edges = {Integer.MIN_VALUE, Integer.MAX_VALUE, -1, -2, 3, 6, 1000, -1000, 100, -100,
                    1 << n, 1 << (n - 1), Model.orders(n).size(), n, 10 + n, 7, 127, 31};
                return edges[random.nextInt(edges.length)];
            }
            int bits = 1 << (n - 1);
            int order = random.nextInt(Model.orders(n).size());
            return switch (name + index) {
                case "begin0" -> 1 + random.nextInt(5);
                case "add1", "factor1", "orderOf0", "product0", "product1" -> order;
                case "add2", "addClass3" -> random.nextInt(3) == 0 ? random.nextInt(1999) - 999 : random.nextInt(7) - 3;
                case "addClass1", "classOf1" -> random.nextInt(bits);
                case "addClass2", "classOf2", "termOf2" -> random.nextInt(2);
                case "combine2", "combine4" -> random.nextInt(4) == 0 ? random.nextInt(199) - 99 : random.nextInt(5) - 2;
                case "turn1", "count0" -> random.nextInt(4);
                case "shuffle1" -> 1 + random.nextInt(Math.max(1, n - 1));
                case "shuffle2", "shuffle3" -> random.nextInt(random.nextBoolean() ? 2 : 6);
                case "orderOf1" -> random.nextInt(10 + n);
                case "termOf1" -> random.nextInt(1 + order);
                case "sumOf1" -> random.nextInt(5);
                case "peakSum1" -> random.nextInt(2 * bits);
                case "byOrders0", "byOrders1", "byOrders2", "byTables0", "byTables1" -> random.nextInt(bits);
                case "byTables2" -> random.nextInt(bits + 1) - 1;
                case "type0" -> "abcdeabc+-*0123 9x".charAt(random.nextInt(18));
                default -> random.nextInt(3);
            };
        }

        private void typeSum() {
            StringBuilder text = new StringBuilder(random.nextInt(3) == 0 ? "-" : "");
            List<String> orders = Model.orders(model.state.n);
            int terms = 1 + random.nextInt(4);
            for (int i = 0; i < terms; i++) {
                text.append(i == 0 ? "" : random.nextBoolean() ? "+" : "-");
                int number = random.nextInt(3) == 0 ? random.nextInt(1050) : random.nextInt(12);
                text.append(random.nextBoolean() ? number + "*" : "").append(orders.get(random.nextInt(orders.size())));
            }
            if (random.nextInt(3) == 0) {
                text.setCharAt(random.nextInt(text.length()), (char) argument("type", 0));
            }
            if (random.nextInt(6) == 0) {
                text.setLength(random.nextInt(text.length()));
            }
            both("clearText");
            for (int i = 0; i < text.length(); i++) {
                both("type", text.charAt(i));
            }
            both("fault");
            both("read", random.nextInt(3));
        }

        private void anyCall() {
            int which = random.nextInt(NAMES.length);
            String name = NAMES[which];
            if (name.equals("begin") && random.nextInt(6) != 0 || name.equals("byOrders") && random.nextInt(4) != 0) {
                return;
            }
            int[] arguments = new int[PARAMETERS[which]];
            for (int i = 0; i < arguments.length; i++) {
                arguments[i] = argument(name, i);
            }
            both(name, arguments);
        }

        /** Looks at all that can be seen of the sums. */
        private void look() {
            for (int sum = 0; sum < 3; sum++) {
                for (int what = 0; what < 5; what++) {
                    both("sumOf", sum, what);
                }
                both("square", sum);
                both("factor", sum, random.nextInt(Model.orders(model.state.n).size()));
            }
        }

        boolean agrees() {
            both("begin", 1 + number % 5);
            for (int i = 0; agree && calls < CALLS && i < 100 * CALLS; i++) {
                if (random.nextInt(60) == 0) {
                    typeSum();
                } else if (random.nextInt(40) == 0) {
                    look();
                } else if (random.nextInt(12) == 0) {
                    both("clear", random.nextInt(3));
                } else {
                    anyCall();
                }
            }
            return agree;
        }
    }

    public static void main(String[] args) {
        Map<String, Integer> answers = new HashMap<>();
        int wrong = 0;
        for (int number = 0; number < RUNS && wrong < 3; number++) {
            wrong += new Run(number, answers).agrees() ? 0 : 1;
        }
        for (String name : NAMES) {
            if (!answers.containsKey(name)) {
                wrong++;
                System.out.println(name + " was never answered without an error");
            }
        }
        if (args.length > 0) {
            new TreeSet<>(answers.keySet()).forEach(key -> System.out.println(key + ": " + answers.get(key)));
        }
        System.out.println(RUNS + " runs of " + CALLS + " calls, " + wrong + " wrong");
        if (wrong != 0) {
            System.exit(1);
        }
    }
}
