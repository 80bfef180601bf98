import java.io.IOException;
import java.lang.reflect.Constructor;
import java.lang.reflect.Field;
import java.lang.reflect.Method;
import java.lang.reflect.Modifier;
import java.nio.file.Files;
import java.nio.file.Path;
import java.util.ArrayList;
import java.util.List;
import java.util.Set;
import java.util.TreeSet;
import java.util.regex.Matcher;
import java.util.regex.Pattern;

/** The public face as the document tells it, and some of the rules of LANGUAGE.md that can be looked up. */
public final class FaceTest {
    private static final String[] FACE = {
        "INVALID_ARGUMENT=-10000001", "NOT_POSSIBLE=-10000002", "LIMIT_REACHED=-10000003", "NOT_FOUND=-10000004",
        "new()", "begin(1)", "add(3)", "addClass(4)", "clear(1)", "multiply(3)", "combine(5)", "turn(2)", "shuffle(4)",
        "orderOf(2)", "product(2)", "factor(2)", "termOf(3)", "sumOf(2)", "classOf(3)", "peakSum(2)", "square(1)",
        "byOrders(3)", "byTables(3)", "count(1)", "undo(0)", "type(1)", "clearText(0)", "fault(0)", "read(1)"};

    /** The calls as the document tells them one behind the other, each group behind its head. */
    private static final String GROUPS = "---- sums begin add addClass clear multiply combine turn shuffle"
        + " ---- orders orderOf product ---- what sums are factor termOf sumOf classOf peakSum square"
        + " ---- products of classes byOrders byTables count undo ---- texts type clearText fault read";

    private static final String[] FORBIDDEN = {
        "\\bthrow\\b", "\\btry\\b", "\\bcatch\\b", "\\bsynchronized\\b", "\\bassert\\b", "->", "::", "\\bimport\\b",
        "\\bpackage\\b", "\\bprotected\\b", "Exact\\(", "\\bStrictMath\\b", "\\bSystem\\.(?!arraycopy)", "\\bvar\\b",
        "\\bequals\\(", "\\bhashCode\\(", "\\btoString\\("};

    private static int wrong = 0;

    private static void check(boolean holds, String what) {
        if (!holds) {
            wrong++;
            System.out.println(what);
        }
    }

    private static Set<String> publicFace() throws IllegalAccessException {
        Set<String> face = new TreeSet<>();
        for (Field field : DescentShuffles.class.getDeclaredFields()) {
            int flags = field.getModifiers();
            if (Modifier.isPublic(flags)) {
                check(Modifier.isStatic(flags) && Modifier.isFinal(flags), field + " is no constant");
                face.add(field.getName() + "=" + field.getInt(null));
            } else {
                check(Modifier.isPrivate(flags), field + " is not private");
                check(!Modifier.isStatic(flags) || Modifier.isFinal(flags), field + " is static and not final");
            }
        }
        for (Constructor<?> constructor : DescentShuffles.class.getDeclaredConstructors()) {
            check(Modifier.isPublic(constructor.getModifiers()), constructor + " is not public");
            face.add(constructor.getParameterCount() == 0 ? "new()" : constructor.toString());
        }
        for (Method method : DescentShuffles.class.getDeclaredMethods()) {
            if (Modifier.isPublic(method.getModifiers())) {
                check(method.getReturnType() == int.class, method + " does not return int");
                check(!Modifier.isStatic(method.getModifiers()), method + " is static");
                face.add(method.getName() + "(" + method.getParameterCount() + ")");
            }
        }
        return face;
    }

    private static void checkNames(Set<String> face) {
        Set<String> names = new TreeSet<>();
        for (String member : face) {
            names.add(member.replaceAll("[(=].*", ""));
        }
        for (Method method : DescentShuffles.class.getDeclaredMethods()) {
            if (!Modifier.isPublic(method.getModifiers())) {
                check(Modifier.isPrivate(method.getModifiers()), method + " is not private");
                check(!names.contains(method.getName()), method + " bears a public name");
            }
        }
        for (Class<?> inside : DescentShuffles.class.getDeclaredClasses()) {
            int flags = inside.getModifiers();
            check(Modifier.isStatic(flags) && !Modifier.isPublic(flags), inside + " is not as the rules want");
            for (Method method : inside.getDeclaredMethods()) {
                check(!names.contains(method.getName()), method + " bears a public name");
                check(method.getParameterCount() <= 7, method + " takes too many parameters");
            }
        }
    }

    private static void checkGroups(String source) {
        List<String> told = new ArrayList<>();
        Matcher each = Pattern.compile("(?m)^    // (---- .+)$|^    public int (\\w+)\\(").matcher(source);
        while (each.find()) {
            told.add(each.group(1) == null ? each.group(2) : each.group(1));
        }
        check(String.join(" ", told).equals(GROUPS), "the calls come as " + told);
    }

    private static void checkSource() throws IOException {
        String source = Files.readString(Path.of("src/main/java/DescentShuffles.java"));
        checkGroups(source);
        String code = source.replaceAll("(?s)/\\*.*?\\*/", "").replaceAll("//[^\n]*", "");
        for (String forbidden : FORBIDDEN) {
            check(!Pattern.compile(forbidden).matcher(code).find(), "the program has " + forbidden);
        }
    }

    public static void main(String[] args) throws Exception {
        Set<String> face = publicFace();
        check(face.equals(new TreeSet<>(Set.of(FACE))), "the face is " + face);
        check(Modifier.isFinal(DescentShuffles.class.getModifiers()), "the class is not final");
        checkNames(face);
        checkSource();
        System.out.println(wrong == 0 ? "the face is as the document tells it" : wrong + " faults");
        if (wrong != 0) {
            System.exit(1);
        }
    }
}
