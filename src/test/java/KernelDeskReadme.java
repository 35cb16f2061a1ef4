import java.lang.reflect.Method;
import java.lang.reflect.Modifier;
import java.nio.file.Files;
import java.nio.file.Path;
import java.util.Set;
import java.util.TreeSet;
import java.util.regex.Matcher;
import java.util.regex.Pattern;

/**
 * The calls shown in README.md are made as they stand there, and answer what README.md says of
 * them. A shown line that can't be read as a call with its answer is a fault, so that no call is
 * shown without being made. Runs in the project's directory.
 */
public final class KernelDeskReadme {
    private static final String LETTERS = "ABCDEFG";
    private static final String NEW_DESK = "KernelDesk desk = new KernelDesk();";
    private static final Pattern CALL = Pattern.compile(
            "desk\\.(\\w+)\\((-?\\d+(?:, -?\\d+)*)\\); *"
            + "// (true|false|BAD|-?\\d+)(?:: (.*))?");
    private static final Pattern STATE = Pattern.compile("(?:.*; )?expression ([0-3]) is now (.*)");

    private static int wrong = 0;
    private static KernelDesk desk = null;
    private static final Set<String> shown = new TreeSet<>();

    public static void main(String[] args) throws Exception {
        boolean inCalls = false;
        int number = 0;
        for (String line : Files.readAllLines(Path.of("README.md"))) {
            number++;
            String where = "README.md:" + number + ": " + line;
            if (line.startsWith("```")) {
                inCalls = line.equals("```java");
            } else if (inCalls) {
                make(where, line);
            } else {
                due(where + " shows a call that no test makes", !line.contains("desk."));
            }
        }
        due("the last block of calls ends", !inCalls);
        for (Method method : KernelDesk.class.getDeclaredMethods()) {
            if (Modifier.isPublic(method.getModifiers())) {
                due("README.md shows " + method.getName(), shown.contains(method.getName()));
            }
        }
        System.out.println(wrong == 0 ? "README.md is as due" : wrong + " faults in README.md");
        if (wrong != 0) {
            System.exit(1);
        }
    }

    private static void make(String where, String line) throws Exception {
        if (line.isEmpty()) {
            return;
        }
        if (line.equals(NEW_DESK)) {
            desk = new KernelDesk();
            return;
        }
        Matcher call = CALL.matcher(line);
        if (desk == null || !call.matches()) {
            due(where + " is a call with its answer", false);
            return;
        }
        shown.add(call.group(1));
        String got = answer(call.group(1), call.group(2).split(", "));
        String want = call.group(3).equals("BAD") ? "" + KernelDesk.BAD : call.group(3);
        due(where + " (answered " + got + ")", got.equals(want));
        if (call.group(4) != null) {
            compareState(where, call.group(4));
        }
    }

    private static String answer(String name, String[] numbers) throws Exception {
        Class<?>[] types = new Class<?>[numbers.length];
        Object[] values = new Object[numbers.length];
        for (int i = 0; i < numbers.length; i++) {
            types[i] = int.class;
            values[i] = Integer.valueOf(numbers[i]);
        }
        return "" + KernelDesk.class.getMethod(name, types).invoke(desk, values);
    }

    private static void compareState(String where, String remark) {
        Matcher state = STATE.matcher(remark);
        if (!state.matches()) {
            due(where + " tells a state that can't be read", !remark.contains("is now"));
            return;
        }
        int e = Integer.parseInt(state.group(1));
        Set<Integer> got = new TreeSet<>();
        for (int i = 0; i < desk.size(e); i++) {
            got.add(desk.cube(e, i));
        }
        due(where + " (has " + got + ")", got.equals(cubesOf(state.group(2))));
    }

    private static Set<Integer> cubesOf(String sum) {
        Set<Integer> cubes = new TreeSet<>();
        if (sum.equals("empty")) {
            return cubes;
        }
        for (String product : sum.split(" \\+ ")) {
            cubes.add(cubeOf(product));
        }
        return cubes;
    }

    /** A product that can't be read equals no cube. */
    private static int cubeOf(String product) {
        if (product.equals("1")) {
            return 0;
        }
        if (!product.matches("[" + LETTERS + "]+")) {
            return -1;
        }
        int cube = 0;
        for (char letter : product.toCharArray()) {
            cube |= 1 << LETTERS.indexOf(letter);
        }
        return cube;
    }

    private static void due(String what, boolean holds) {
        if (!holds) {
            wrong++;
            System.out.println("not so: " + what);
        }
    }
}
