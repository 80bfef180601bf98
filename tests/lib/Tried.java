import java.lang.reflect.InvocationTargetException;
import java.lang.reflect.Method;
import java.util.ArrayList;
import java.util.Arrays;
import java.util.HashMap;
import java.util.List;
import java.util.Map;
import java.util.function.Supplier;

/** An object that is called by the names of its calls; each answer that is not the due one is kept as a fault. */
final class Tried {
    static final int INVALID = -10000001;
    static final int NOT_POSSIBLE = -10000002;
    static final int LIMIT = -10000003;
    static final int NOT_FOUND = -10000004;
    static final int LOW = Integer.MIN_VALUE;
    static final int HIGH = Integer.MAX_VALUE;
    /** How many orders there are of so many letters. */
    static final int[] MANY = {0, 1, 2, 6, 24, 120};

    private static final int MOST_CALLS = 512;
    private static final Map<String, Method> METHODS = new HashMap<>();
    private static final List<String> FAULTS = new ArrayList<>();

    private final DescentShuffles x = new DescentShuffles();
    private final List<String> told = new ArrayList<>();

    static Tried fresh() {
        return new Tried();
    }

    static Tried with(int n) {
        return fresh().due(MANY[n], "begin", n);
    }

    /** Some factors in each sum, a full history and the first order as a text. */
    static Tried prepared(int n) {
        int last = MANY[n] - 1;
        Tried made = with(n);
        made.answer("add", 0, 0, 4);
        made.answer("add", 0, 0, 1);
        made.answer("add", 1, last, -7);
        made.answer("add", 2, last / 2, 3);
        return made.types("abcde".substring(0, n));
    }

    static List<String> takeFaults() {
        List<String> taken = new ArrayList<>(FAULTS);
        FAULTS.clear();
        return taken;
    }

    static void check(boolean holds, String what) {
        if (!holds) {
            FAULTS.add(what);
        }
    }

    int answer(String name, int... arguments) {
        told.add(name + Arrays.toString(arguments));
        if (told.size() > MOST_CALLS) {
            throw new IllegalStateException("a test calls an object more than " + MOST_CALLS + " times");
        }
        try {
            return (int) method(name).invoke(x, Arrays.stream(arguments).boxed().toArray());
        } catch (InvocationTargetException e) {
            check(false, tail() + " threw " + e.getCause());
            return 0;
        } catch (IllegalAccessException e) {
            throw new IllegalStateException(e);
        }
    }

    Tried due(int want, String name, int... arguments) {
        int got = answer(name, arguments);
        check(got == want, tail() + " answered " + got + ", due is " + want);
        return this;
    }

    /** The call is good: it answers something else than an error. */
    Tried goes(String name, int... arguments) {
        int got = answer(name, arguments);
        check(!isError(got), tail() + " answered " + got);
        return this;
    }

    Tried types(String text) {
        for (int i = 0; i < text.length(); i++) {
            goes("type", text.charAt(i));
        }
        return this;
    }

    Tried retypes(String text) {
        return goes("clearText").types(text);
    }

    /** Adds to the factor of an order until it is this one. */
    Tried raise(int sum, int order, int factor) {
        int rest = factor - answer("factor", sum, order);
        while (rest != 0) {
            int step = Math.max(-999, Math.min(999, rest));
            goes("add", sum, order, step);
            rest -= step;
        }
        return this;
    }

    /** The call answers an error, and nothing that can be seen then or by undoing is another than without it. */
    static void refuses(Supplier<Tried> made, int error, String name, int... arguments) {
        Tried called = made.get().due(error, name, arguments);
        alike(called, made.get());
    }

    /** Each argument in turn just beyond its range and far beyond, the others being good. */
    static void outside(Supplier<Tried> made, String name, int[] good, int[]... ranges) {
        made.get().goes(name, good);
        for (int i = 0; i < ranges.length; i++) {
            for (int bad : new int[] {ranges[i][0] - 1, ranges[i][1] + 1, LOW, HIGH}) {
                int[] arguments = good.clone();
                arguments[i] = bad;
                refuses(made, INVALID, name, arguments);
            }
        }
    }

    static int[] args(int... arguments) {
        return arguments;
    }

    static int[] range(int least, int most) {
        return new int[] {least, most};
    }

    /** Both look the same now and after each undo, and their texts are read alike. */
    static void alike(Tried one, Tried other) {
        int left = 0;
        while (left != NOT_POSSIBLE) {
            same(one, one.seen(), other.seen());
            left = one.answer("undo");
            same(one, "undo " + left, "undo " + other.answer("undo"));
        }
        one.answer("read", 1);
        other.answer("read", 1);
        same(one, one.seen(), other.seen());
    }

    private static void same(Tried one, String got, String want) {
        check(got.equals(want), one.tail() + ": there is " + got + ", due is " + want);
    }

    private String seen() {
        StringBuilder seen = new StringBuilder();
        for (int what = 0; what < 4; what++) {
            seen.append(answer("count", what)).append(' ');
        }
        seen.append(answer("fault"));
        for (int sum = 0; sum < 3; sum++) {
            seen.append(';');
            int order = answer("termOf", sum, 0, 0);
            for (int index = 0; order != NOT_FOUND && index < MANY[5]; index++) {
                seen.append(' ').append(order).append(':').append(answer("termOf", sum, index, 1));
                order = answer("termOf", sum, index + 1, 0);
            }
        }
        return seen.toString();
    }

    private String tail() {
        return String.join(" ", told.subList(Math.max(0, told.size() - 8), told.size()));
    }

    private static boolean isError(int answer) {
        return answer == INVALID || answer == NOT_POSSIBLE || answer == LIMIT || answer == NOT_FOUND;
    }

    private static Method method(String name) {
        return METHODS.computeIfAbsent(name, key -> Arrays.stream(DescentShuffles.class.getMethods())
            .filter(each -> each.getName().equals(key)).findFirst().orElseThrow());
    }
}
