import java.io.IOException;
import java.lang.reflect.Method;
import java.nio.file.Files;
import java.nio.file.Path;
import java.util.Set;
import java.util.regex.Matcher;
import java.util.regex.Pattern;

/** The run that README.md tells under "Use": each call answers what stands behind it. */
final class ReadmeTest {
    private static final Check CHECK = new Check("ReadmeTest");
    private static final Pattern CALL = Pattern.compile("ground\\.(\\w+)\\((.*?)\\); *// (-?\\d+)(:.*)?");
    private static final Pattern FEEDING = Pattern.compile("for \\(char letter : \"(.*)\"\\.toCharArray\\(\\)\\) \\{");
    private static final Set<String> BESIDE = Set.of("BellGround ground = new BellGround();",
            "    ground.feed(letter);", "}");

    private ReadmeTest() {
    }

    public static void main(String[] args) throws IOException, ReflectiveOperationException {
        BellGround ground = new BellGround();
        boolean code = false;
        int calls = 0;
        for (String line : Files.readAllLines(Path.of("README.md"))) {
            if (line.startsWith("```")) {
                code = line.equals("```java");
            } else if (code) {
                calls += run(ground, line);
            }
        }
        CHECK.holds("README.md tells a run: " + calls + " calls", calls > 50);
        CHECK.end();
    }

    /** How many calls with an answer a line told: 1, 0. */
    private static int run(BellGround ground, String line) throws ReflectiveOperationException {
        Matcher call = CALL.matcher(line);
        if (call.matches()) {
            String told = call.group(1) + "(" + call.group(2) + ")";
            CHECK.due(told, answer(ground, call.group(1), call.group(2)), Long.parseLong(call.group(3)));
            return 1;
        }
        Matcher feeding = FEEDING.matcher(line);
        if (feeding.matches()) {
            for (char letter : feeding.group(1).toCharArray()) {
                ground.feed(letter);
            }
        } else {
            CHECK.holds("README.md has a line that is no call: " + line, BESIDE.contains(line));
        }
        return 0;
    }

    private static long answer(BellGround ground, String name, String told) throws ReflectiveOperationException {
        for (Method method : BellGround.class.getMethods()) {
            if (method.getName().equals(name) && method.getDeclaringClass() == BellGround.class) {
                return ((Number) method.invoke(ground, arguments(method, told))).longValue();
            }
        }
        CHECK.holds("a call of the face: " + name, false);
        return 0;
    }

    private static Object[] arguments(Method method, String told) {
        String[] each = told.isEmpty() ? new String[0] : told.split(", ");
        Object[] arguments = new Object[each.length];
        for (int k = 0; k < each.length; k++) {
            long v = each[k].startsWith("'") ? each[k].charAt(1) : Long.parseLong(each[k]);
            boolean wide = k < method.getParameterCount() && method.getParameterTypes()[k] == long.class;
            arguments[k] = wide ? (Object) v : (Object) (int) v;
        }
        return arguments;
    }
}
