import java.io.IOException;
import java.lang.reflect.Method;
import java.lang.reflect.Modifier;
import java.nio.file.Files;
import java.nio.file.Path;
import java.util.ArrayList;
import java.util.List;

/**
 * The example of README.md: each of its calls answers what README.md says, each method of the document is in it, and it
 * stands in README.md just so (where that file is at hand, as in .ci/run).
 */
public final class ReadmeTest {
    private static final String[] EXAMPLE = {
        "feed(0x00112233, 0x44556677, 0x8899aabb, 0x08004500, 0x00280001)", "20",
        "feed(0x00004006, 0x00000a00, 0x00010a00, 0x00020400, 0x00500000)", "40",
        "feed(0x00010000, 0x00005002, 0x10000000, 0x00000000, 0x00000000)", "60",
        "end(54)", "54",
        "packet()", "0",
        "bytes(0, 12)", "0x0800450000280001",
        "feed(0x64737420, 0x706f7274, 0x20383000, 0x00000000, 0x00000000)", "20",
        "end(11)", "11",
        "compile()", "27",
        "matches()", "1",
        "count(4)", "9",
        "count(5)", "0",
        "instruction(0)", "0x16bf",
        "instruction(1)", "0x0000000c00000028",
        "verify()", "0",
        "known(2, 0, 0)", "1",
        "known(2, 0, 1)", "0",
        "known(2, 0, 2)", "65535",
        "known(2, 1, 0)", "0",
        "run(0)", "1",
        "ended(0)", "0",
        "ended(1)", "15",
        "ended(2)", "24",
        "register(6)", "54",
        "stack(63)", "0",
        "translate()", "175",
        "word(0)", "0x00058913",
        "emulate(0)", "1",
        "ended(1)", "82",
        "register(10)", "1",
        "feed(0x74637020, 0x616e6400, 0x00000000, 0x00000000, 0x00000000)", "20",
        "end(7)", "7",
        "compile()", "-8",
        "count(1)", "27",
        "feed(0xbf100000, 0x00000000, 0x27000000, 0x02000000, 0x95000000)", "20",
        "feed(0x00000000, 0x00000000, 0x00000000, 0x00000000, 0x00000000)", "40",
        "end(24)", "24",
        "load()", "3",
        "verify()", "0",
        "known(2, 0, 2)", "512",
        "run(0)", "108",
        "matches()", "1",
        "feed(0x13851500, 0x73000000, 0x00000000, 0x00000000, 0x00000000)", "20",
        "end(8)", "8",
        "raw()", "2",
        "emulate(0)", "55",
    };
    private static int wrong = 0;

    private static void fault(String what) {
        wrong++;
        System.out.println(what);
    }

    private static String nameOf(String call) {
        return call.substring(0, call.indexOf('('));
    }

    private static long made(FilterForge forge, String call) throws ReflectiveOperationException {
        String inner = call.substring(call.indexOf('(') + 1, call.length() - 1);
        String[] told = inner.isEmpty() ? new String[0] : inner.split(", ");
        Class<?>[] kinds = new Class<?>[told.length];
        Object[] numbers = new Object[told.length];
        for (int i = 0; i < told.length; i++) {
            kinds[i] = int.class;
            numbers[i] = (int) (long) Long.decode(told[i]);
        }
        return ((Number) FilterForge.class.getMethod(nameOf(call), kinds).invoke(forge, numbers)).longValue();
    }

    private static void runExample() throws ReflectiveOperationException {
        FilterForge forge = new FilterForge();
        for (int i = 0; i < EXAMPLE.length; i += 2) {
            long got = made(forge, EXAMPLE[i]);
            if (got != Long.decode(EXAMPLE[i + 1])) {
                fault(EXAMPLE[i] + " answered " + got + ", due is " + EXAMPLE[i + 1]);
            }
        }
    }

    private static void findEachMethod() {
        List<String> called = new ArrayList<>();
        for (int i = 0; i < EXAMPLE.length; i += 2) {
            called.add(nameOf(EXAMPLE[i]));
        }
        for (Method method : FilterForge.class.getDeclaredMethods()) {
            if (Modifier.isPublic(method.getModifiers()) && !called.contains(method.getName())) {
                fault("no example of " + method.getName());
            }
        }
    }

    private static void compareText() throws IOException {
        Path readme = Path.of("README.md");
        if (!Files.exists(readme)) {
            return;
        }
        int i = 0;
        for (String line : Files.readAllLines(readme)) {
            if (!line.startsWith("forge.")) {
                continue;
            }
            int comment = line.indexOf("; ");
            String call = line.substring(6, Math.max(6, comment));
            String answer = line.substring(line.indexOf("// ") + 3).split("[: ]")[0];
            if (i >= EXAMPLE.length || !call.equals(EXAMPLE[i]) || !answer.equals(EXAMPLE[i + 1])) {
                fault("README.md has " + line);
            }
            i += 2;
        }
        if (i != EXAMPLE.length) {
            fault("README.md has " + i / 2 + " calls of " + EXAMPLE.length / 2);
        }
    }

    public static void main(String[] args) throws Exception {
        runExample();
        findEachMethod();
        compareText();
        System.exit(wrong == 0 ? 0 : 1);
    }
}
