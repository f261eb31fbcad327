import java.io.IOException;
import java.lang.reflect.Array;
import java.lang.reflect.Constructor;
import java.lang.reflect.Field;
import java.lang.reflect.Method;
import java.lang.reflect.Modifier;
import java.nio.charset.StandardCharsets;
import java.nio.file.Files;
import java.nio.file.Path;
import java.util.ArrayList;
import java.util.Arrays;
import java.util.Collections;
import java.util.HashMap;
import java.util.HashSet;
import java.util.IdentityHashMap;
import java.util.List;
import java.util.Map;
import java.util.Set;
import java.util.TreeSet;
import java.util.regex.Matcher;
import java.util.regex.Pattern;

/** The public face of the class, and the rules of LANGUAGE.md that can be seen in its code. */
public final class FaceTest {
    private static final String[] METHODS = {
        "add(int,int,int,int)", "remove(int)", "set(int,int,int)", "item(int,int)", "conflict(int,int)", "need(int,int)",
        "rule(int,int)", "put(long)", "wipe()", "fault()", "load()", "choice(int,int)", "weightIn(int,int)", "best(int)",
        "bestWith(int,int,int)", "leastCapacity(int)", "headroom(int)", "greedy(int)", "forced(int,int,int)",
        "frontier(int,int)", "improve(int,int)", "list(int,int)", "dominator(int,int)", "threshold(int)", "plain(int)",
        "recovered(int,int,int)", "adversary(int,int,int)", "undo()", "count(int)"};
    private static final String[] CONSTANTS = {
        "NO_SUCH=-1", "BAD_VALUE=-2", "BAD_TEXT=-3", "TOO_MANY=-4", "NOT_POSSIBLE=-5", "NONE=-6", "SHIFT=100000",
        "CAPACITY=0", "WEIGHT_BUDGET=1", "PROFIT_BUDGET=2", "PROFIT=0", "WEIGHT=1", "WEIGHT_DEVIATION=2",
        "PROFIT_DEVIATION=3", "GROUP=4"};
    private static final String[] BANNED = {"\\bthrow\\b", "\\bthrows\\b", "\\btry\\b", "\\bcatch\\b", "\\bsynchronized\\b",
        "\\bassert\\b", "->", "::", "\\bhashCode\\b", "\\bimport\\b", "\\bpackage\\b", "Exact\\b", "\\bvar\\b", "MAX_VALUE",
        "MIN_VALUE", "\"", "\\bstatic\\s*\\{", "\\bfloat\\b", "\\bdouble\\b", "\\[\\]\\[\\]\\[", "while \\(true", "for \\(;;",
        "\\bnative\\b", "\\bvolatile\\b"};
    /** What the class uses of the library; LANGUAGE.md allows more. */
    private static final Set<String> LIBRARY = Set.of("Math.max", "Math.min", "Integer.bitCount", "System.arraycopy");
    private static final int MOST_CALLS_DEEP = 8;
    /** All objects of a run share some 7.3 million fields and elements; one planner takes less than a hundredth of it. */
    private static final int MOST_ROOM = 50000;
    private static final int MOST_OBJECTS = 300;
    private static final Pattern METHOD = Pattern.compile(
            "\n( {4}| {8})(?:public |private |static )*(?:int|boolean|void) (\\w+)\\([^)]*\\) \\{\\n(.*?)\n\\1\\}", Pattern.DOTALL);
    private static final Set<String> NAMES = new HashSet<>();
    private static int wrong = 0;

    private static void check(boolean holds, String what) {
        if (!holds) {
            wrong++;
            System.out.println("not so: " + what);
        }
    }

    private static String signature(Method method) {
        List<String> types = new ArrayList<>();
        for (Class<?> type : method.getParameterTypes()) {
            types.add(type.getName());
        }
        return method.getName() + "(" + String.join(",", types) + ")";
    }

    private static void checkMethods() {
        Set<String> open = new TreeSet<>();
        for (Method method : RobustPacking.class.getDeclaredMethods()) {
            if (Modifier.isPrivate(method.getModifiers())) {
                check(!NAMES.contains(method.getName()), "no private method is called " + method.getName());
            } else {
                check(Modifier.isPublic(method.getModifiers()) && method.getReturnType() == int.class
                        && !Modifier.isStatic(method.getModifiers()), method.getName() + " is a public method that answers int");
                open.add(signature(method));
            }
        }
        check(open.equals(new TreeSet<>(Arrays.asList(METHODS))), "the methods are those of the document, not " + open);
    }

    private static void checkConstants() throws IllegalAccessException {
        Set<String> open = new TreeSet<>();
        for (Field field : RobustPacking.class.getDeclaredFields()) {
            int kind = field.getModifiers();
            check(!Modifier.isStatic(kind) || Modifier.isFinal(kind), field.getName() + " is no changing static field");
            if (!Modifier.isPrivate(kind)) {
                check(Modifier.isPublic(kind) && Modifier.isStatic(kind), field.getName() + " is a public constant");
                open.add(field.getName() + "=" + field.getInt(null));
            }
        }
        check(open.equals(new TreeSet<>(Arrays.asList(CONSTANTS))), "the constants are those of the document, not " + open);
    }

    private static void checkClasses() {
        int kind = RobustPacking.class.getModifiers();
        check(Modifier.isPublic(kind) && Modifier.isFinal(kind), "the class is public and final");
        Constructor<?>[] constructors = RobustPacking.class.getDeclaredConstructors();
        check(constructors.length == 1 && Modifier.isPublic(constructors[0].getModifiers())
                && constructors[0].getParameterCount() == 0, "there is one constructor, public, without parameters");
        Class<?>[] inside = RobustPacking.class.getDeclaredClasses();
        check(inside.length <= 11, "there are at most twelve classes");
        for (Class<?> nested : inside) {
            check(Modifier.isStatic(nested.getModifiers()) && !Modifier.isPublic(nested.getModifiers()),
                    nested.getSimpleName() + " is static and not public");
            check(nested.getDeclaredFields().length <= 20, nested.getSimpleName() + " has at most twenty fields");
            for (Method method : nested.getDeclaredMethods()) {
                check(!NAMES.contains(method.getName()), "no method of " + nested.getSimpleName() + " is called " + method.getName());
                check(method.getParameterCount() <= 7, method.getName() + " has at most seven parameters");
            }
        }
    }

    private static void checkSource() throws IOException {
        byte[] bytes = Files.readAllBytes(Path.of("src/main/java/RobustPacking.java"));
        for (byte sign : bytes) {
            check(sign > 0, "the source is plain ASCII");
        }
        String source = new String(bytes, StandardCharsets.US_ASCII);
        String code = source.replaceAll("(?s)/\\*.*?\\*/", "").replaceAll("//[^\n]*", "");
        for (String banned : BANNED) {
            Matcher matcher = Pattern.compile(banned).matcher(code);
            check(!matcher.find(), "the code is without " + banned);
        }
        checkLibrary(code);
        checkDepth(code);
        int start = -1;
        String[] lines = source.split("\n");
        for (int i = 0; i < lines.length; i++) {
            if (lines[i].matches(" {4,8}\\S.*\\) \\{") || lines[i].matches(" {16}.*\\) \\{") && start < 0) {
                start = i;
            } else if (start >= 0 && lines[i].matches(" {4,8}\\}")) {
                check(i - start <= 60, "the method at line " + (start + 1) + " is short");
                start = -1;
            }
        }
    }

    /** Names that begin with a capital and go on in small letters are classes: our own, or one of the library. */
    private static void checkLibrary(String code) {
        Set<String> own = new HashSet<>(Set.of("RobustPacking"));
        for (Class<?> nested : RobustPacking.class.getDeclaredClasses()) {
            own.add(nested.getSimpleName());
        }
        Matcher name = Pattern.compile("\\b([A-Z]\\w*[a-z]\\w*)(\\.\\w+)?").matcher(code);
        while (name.find()) {
            check(own.contains(name.group(1)) || LIBRARY.contains(name.group()), name.group() + " is allowed");
        }
    }

    /** Methods are told apart by their names alone, which can only make the calls look deeper than they are. */
    private static void checkDepth(String code) {
        Map<String, String> bodies = new HashMap<>();
        Matcher method = METHOD.matcher(code);
        while (method.find()) {
            bodies.merge(method.group(2), method.group(3), String::concat);
        }
        check(bodies.keySet().containsAll(NAMES), "every method is found in the source");
        for (String name : bodies.keySet()) {
            check(!Pattern.compile("\\bnew\\b").matcher(bodies.get(name)).find(), name + " makes no object: constructors do");
            check(depth(name, bodies, 1) <= MOST_CALLS_DEEP, name + " goes at most " + MOST_CALLS_DEEP + " calls deep");
        }
    }

    private static int depth(String name, Map<String, String> bodies, int above) {
        int deepest = above;
        Matcher called = Pattern.compile("\\b(\\w+)\\(").matcher(bodies.get(name));
        while (called.find() && deepest <= MOST_CALLS_DEEP) {
            if (bodies.containsKey(called.group(1))) {
                deepest = Math.max(deepest, depth(called.group(1), bodies, above + 1));
            }
        }
        return deepest;
    }

    /** Counts the objects, and their fields and elements, that a planner holds. */
    private static int[] roomOf(Object held, Set<Object> seen) throws IllegalAccessException {
        int[] room = {0, 0};
        if (held == null || !seen.add(held)) {
            return room;
        }
        room[0] = 1;
        if (held.getClass().isArray()) {
            int length = Array.getLength(held);
            room[1] = length;
            for (int i = 0; i < length && !held.getClass().getComponentType().isPrimitive(); i++) {
                addRoom(room, roomOf(Array.get(held, i), seen));
            }
            return room;
        }
        for (Field field : held.getClass().getDeclaredFields()) {
            if (!Modifier.isStatic(field.getModifiers())) {
                room[1]++;
                field.setAccessible(true);
                addRoom(room, field.getType().isPrimitive() ? new int[] {0, 0} : roomOf(field.get(held), seen));
            }
        }
        return room;
    }

    private static void addRoom(int[] room, int[] more) {
        room[0] += more[0];
        room[1] += more[1];
    }

    private static void checkRoom() throws IllegalAccessException {
        int[] room = roomOf(new RobustPacking(), Collections.newSetFromMap(new IdentityHashMap<>()));
        check(room[0] <= MOST_OBJECTS, "a planner is at most " + MOST_OBJECTS + " objects, not " + room[0]);
        check(room[1] <= MOST_ROOM, "a planner takes at most " + MOST_ROOM + " fields and elements, not " + room[1]);
    }

    public static void main(String[] args) throws Exception {
        for (String method : METHODS) {
            NAMES.add(method.substring(0, method.indexOf('(')));
        }
        checkMethods();
        checkConstants();
        checkClasses();
        checkSource();
        checkRoom();
        System.out.println(wrong == 0 ? "the face is as due" : wrong + " things are not as due");
        if (wrong != 0) {
            System.exit(1);
        }
    }
}
