import java.io.IOException;
import java.lang.management.ManagementFactory;
import java.lang.reflect.Array;
import java.lang.reflect.Field;
import java.lang.reflect.Method;
import java.lang.reflect.Modifier;
import java.nio.file.Files;
import java.nio.file.Path;
import java.util.ArrayList;
import java.util.Arrays;
import java.util.Collections;
import java.util.IdentityHashMap;
import java.util.List;
import java.util.Set;
import java.util.TreeSet;
import java.util.regex.Matcher;
import java.util.regex.Pattern;

/** The face, the rules of LANGUAGE.md that can be looked up, and the room that an object and its calls take. */
final class RulesTest {
    private static final Check CHECK = new Check("RulesTest");
    private static final String[] FACE = {"land(int)int", "bell(int,int)int", "bells(int,int,int)int",
        "mend(int,int,int)int", "of(int,int)int", "feed(int)int", "law()int", "hum(int,int,int)int",
        "heard(int,int)int", "hearing(int,int,int)int", "forget()int", "ways(int,int)int", "sure(int,int)int",
        "chance(int,int,int)int", "dig(int)int", "next(int,int)int", "told(int,int)int", "liars(int)int",
        "shows(int)int", "chain(int)int", "strikes(int,int)int", "source()int", "tune(int,int)int",
        "whose(int,int)int", "years(int,int)int", "dug(int,int)int", "judge(int)int", "image()int", "back()int",
        "undo()int", "redo()int", "body(int)int", "act(int,int,int)int", "trace(int)int", "keep(int,int)int",
        "row(int,int,int)int", "put(int,int,long)int", "element(int,int)long", "shift(int,int,int,int,int)int",
        "taken(int,int)int", "count(int)int"};
    private static final String[] CONSTANTS = {"BAD=-1", "NOT=-2", "FULL=-3", "STATE=-5", "VOID=-2000000000"};
    private static final Pattern FORBIDDEN = Pattern.compile("\\b(throw|throws|try|catch|finally|synchronized|assert"
            + "|volatile|native|strictfp|protected|float|double|HashMap|Object|System\\.out|System\\.err|nanoTime"
            + "|currentTimeMillis|random|Random|Thread|yield|record|sealed|hashCode|toString|format|printf|stream"
            + "|\\w+Exact|String\\.valueOf)\\b|->|::|@");

    private RulesTest() {
    }

    public static void main(String[] args) throws ReflectiveOperationException, IOException {
        theFace();
        innerClasses();
        String source = Files.readString(Path.of(args.length > 0 ? args[0] : "src/main/java/BellGround.java"));
        noForbiddenWords(source);
        methodsStayShort(source);
        roomOfAnObject();
        roomOfCalls();
        CHECK.end();
    }

    private static void theFace() throws ReflectiveOperationException {
        Class<?> c = BellGround.class;
        CHECK.due("public final", c.getModifiers() & (Modifier.PUBLIC | Modifier.FINAL | Modifier.ABSTRACT),
                Modifier.PUBLIC | Modifier.FINAL);
        CHECK.holds("one constructor, public, of nothing", c.getDeclaredConstructors().length == 1
                && Modifier.isPublic(c.getConstructor().getModifiers()));
        Set<String> methods = new TreeSet<>();
        Set<String> publicNames = new TreeSet<>();
        for (Method m : c.getDeclaredMethods()) {
            if (!Modifier.isPrivate(m.getModifiers()) && !m.isSynthetic()) {
                methods.add(told(m));
                publicNames.add(m.getName());
                CHECK.holds("public, not static: " + m, Modifier.isPublic(m.getModifiers())
                        && !Modifier.isStatic(m.getModifiers()));
            }
        }
        CHECK.holds("the methods: " + methods, methods.equals(new TreeSet<>(Arrays.asList(FACE))));
        Set<String> constants = new TreeSet<>();
        for (Field f : c.getDeclaredFields()) {
            if (Modifier.isPrivate(f.getModifiers())) {
                CHECK.holds("static, so final: " + f,
                        !Modifier.isStatic(f.getModifiers()) || Modifier.isFinal(f.getModifiers()));
            } else {
                CHECK.holds("a constant of int: " + f, f.getType() == int.class
                        && f.getModifiers() == (Modifier.PUBLIC | Modifier.STATIC | Modifier.FINAL));
                constants.add(f.getName() + "=" + f.getInt(null));
            }
        }
        CHECK.holds("the constants: " + constants, constants.equals(new TreeSet<>(Arrays.asList(CONSTANTS))));
        for (Class<?> one : allClasses()) {
            for (Method m : one.getDeclaredMethods()) {
                CHECK.holds("no name of the face: " + m, one == c && Modifier.isPublic(m.getModifiers())
                        || !publicNames.contains(m.getName()));
            }
        }
    }

    private static String told(Method m) {
        List<String> types = new ArrayList<>();
        for (Class<?> type : m.getParameterTypes()) {
            types.add(type.getName());
        }
        return m.getName() + "(" + String.join(",", types) + ")" + m.getReturnType().getName();
    }

    private static List<Class<?>> allClasses() {
        List<Class<?>> all = new ArrayList<>(List.of(BellGround.class));
        for (int k = 0; k < all.size(); k++) {
            all.addAll(Arrays.asList(all.get(k).getDeclaredClasses()));
        }
        return all;
    }

    private static void innerClasses() {
        CHECK.holds("some twelve classes: " + allClasses().size(), allClasses().size() <= 12);
        for (Class<?> c : allClasses()) {
            CHECK.holds("static and not public: " + c, c == BellGround.class || Modifier.isStatic(c.getModifiers())
                    && !Modifier.isPublic(c.getModifiers()) && !Modifier.isProtected(c.getModifiers()));
            long fields = Arrays.stream(c.getDeclaredFields()).filter(f -> !Modifier.isStatic(f.getModifiers())).count();
            CHECK.holds("some twenty fields: " + c, fields <= 20);
            for (Field f : c.getDeclaredFields()) {
                CHECK.holds("no static state: " + f,
                        !Modifier.isStatic(f.getModifiers()) || Modifier.isFinal(f.getModifiers()));
            }
            for (Method m : c.getDeclaredMethods()) {
                CHECK.holds("at most seven parameters: " + m, m.getParameterCount() <= 7);
                CHECK.holds("private within: " + m, c == BellGround.class || Modifier.isPrivate(m.getModifiers()));
                CHECK.holds("no lambda or bridge: " + m, !m.isSynthetic());
            }
        }
    }

    private static void noForbiddenWords(String source) {
        String code = source.replaceAll("(?s)/\\*.*?\\*/", "").replaceAll("//[^\n]*", "");
        Matcher word = FORBIDDEN.matcher(code);
        while (word.find()) {
            CHECK.holds("no such word: " + word.group(), false);
        }
        Matcher imported = Pattern.compile("import ([\\w.]+);").matcher(code);
        while (imported.find()) {
            CHECK.holds("import " + imported.group(1), Set.of("java.util.Arrays", "java.util.ArrayList",
                    "java.util.List", "java.util.Iterator").contains(imported.group(1)));
        }
        CHECK.holds("signs of 1 to 126 alone", source.chars().allMatch(c -> c == '\n' || c >= 32 && c < 127));
        CHECK.holds("no package", !code.contains("package "));
        CHECK.holds("no static block", !Pattern.compile("static\\s*\\{").matcher(code).find());
    }

    private static void methodsStayShort(String source) {
        String[] lines = source.split("\n");
        int begun = -1;
        for (int k = 0; k < lines.length; k++) {
            String line = lines[k];
            if (line.matches(" {4}( {4})?(public|private|[A-Z]\\w+\\().*\\) \\{") && !line.contains(" class ")) {
                begun = k;
            } else if (line.matches(" {4}( {4})?\\}") && begun >= 0) {
                CHECK.holds("a method of some sixty lines: " + lines[begun].trim(), k - begun <= 60);
                begun = -1;
            }
        }
    }

    /** Objects, fields and elements that can be reached from one. */
    private static long[] room(Object root) throws ReflectiveOperationException {
        long objects = 0;
        long elements = 0;
        Set<Object> seen = Collections.newSetFromMap(new IdentityHashMap<>());
        List<Object> open = new ArrayList<>(List.of(root));
        seen.add(root);
        for (int k = 0; k < open.size(); k++) {
            Object one = open.get(k);
            objects++;
            if (one.getClass().isArray()) {
                elements += Array.getLength(one);
                continue;
            }
            for (Field f : one.getClass().getDeclaredFields()) {
                if (Modifier.isStatic(f.getModifiers())) {
                    continue;
                }
                elements++;
                f.setAccessible(true);
                Object held = f.getType().isPrimitive() ? null : f.get(one);
                if (held != null && seen.add(held)) {
                    open.add(held);
                }
            }
        }
        return new long[] {objects, elements};
    }

    private static void roomOfAnObject() throws ReflectiveOperationException {
        long[] room = room(new BellGround());
        System.out.println("an object: " + room[0] + " objects and arrays, " + room[1] + " fields and elements");
        CHECK.holds("objects and arrays of one: " + room[0], room[0] <= 200);
        CHECK.holds("fields and elements of one: " + room[1], room[1] <= 10000);
    }

    private static void roomOfCalls() {
        com.sun.management.ThreadMXBean threads = (com.sun.management.ThreadMXBean) ManagementFactory
                .getThreadMXBean();
        // the first time may load what later times find
        long sum = callEach(new BellGround()) + threads.getCurrentThreadAllocatedBytes();
        BellGround x = new BellGround();
        long before = threads.getCurrentThreadAllocatedBytes();
        sum += callEach(x);
        long taken = threads.getCurrentThreadAllocatedBytes() - before;
        CHECK.due("bytes taken by the calls (their sum is " + sum + ")", taken, 0);
    }

    private static long callEach(BellGround x) {
        long sum = x.feed('d') + x.feed('*') + x.feed('9') + x.law();
        sum += x.land(44) + x.bell(3, 530) + x.row(0, 0, 60) + x.put(0, 0, 4) + x.bells(0, 0, 6)
                + x.mend(2, 0, 7) + x.hum(0, 503, 2) + x.heard(503, 2) + x.hearing(503, 2, 33) + x.ways(1, -1)
                + x.ways(2, 1) + x.sure(2, 0) + x.chance(2, 1, 1) + x.dig(2) + x.next(3, 0) + x.told(2, 0) + x.liars(2)
                + x.shows(1) + x.chain(1) + x.strikes(1, 1) + x.source() + x.tune(0, 1234) + x.whose(0, 1)
                + x.years(7, 30) + x.dug(3, 9) + x.judge(1) + x.image() + x.back() + x.undo() + x.redo() + x.body(7)
                + x.act(0, 3, 7) + x.trace(2) + x.keep(1, 0) + x.element(0, 1) + x.shift(0, 0, 0, 1, 5) + x.taken(1, 4)
                + x.count(7);
        for (int k = 0; k < 60; k++) {
            sum += x.mend(0, 5, k);
        }
        return sum;
    }
}
