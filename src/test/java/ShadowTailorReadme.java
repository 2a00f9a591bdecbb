import java.io.IOException;
import java.lang.reflect.Method;
import java.lang.reflect.Modifier;
import java.nio.file.Files;
import java.nio.file.Path;
import java.util.Arrays;
import java.util.Set;
import java.util.TreeSet;
import java.util.regex.Matcher;
import java.util.regex.Pattern;
import java.util.stream.Stream;

/** What README.md shows is so: its examples are run, and each call and each test is in it. */
public final class ShadowTailorReadme {
    private static final Path README = Path.of("README.md"), TESTS = Path.of("src/test/java");
    private static final String CALL = "(\\w+)\\(([-\\d, ]*)\\)", ANSWER = "(-?\\d+|BAD|NO|NONE|FULL)";
    /** In the tables, on a new object each. */
    private static final Pattern EXAMPLE = Pattern.compile("`" + CALL + "` is " + ANSWER + " \\|");
    /** In the program, one behind the other. */
    private static final Pattern STEP = Pattern.compile("tailor\\." + CALL + ";\\s+// " + ANSWER + ":");
    private static final Pattern WRITTEN = Pattern.compile("\"(p[^\"]*)\"");
    private static final Pattern CONSTANT = Pattern.compile("\\| `([A-Z]+)` \\((-\\d)\\) \\|");

    private static int wrong;

    private static void due(String what, Object got, Object want) {
        if (!got.equals(want)) {
            wrong++;
            System.out.println("README.md: " + what + " is " + got + ", due is " + want);
        }
    }

    public static void main(String[] args) throws IOException, ReflectiveOperationException {
        String readme = Files.readString(README);
        int asked = constants(readme) + examples(readme) + steps(readme);
        try (Stream<Path> tests = Files.list(TESTS)) {
            for (Path test : tests.toList()) {
                String name = test.getFileName().toString().replace(".java", "");
                due("- `" + name + "`: in it", readme.contains("- `" + name + "`: "), true);
            }
        }
        due("how to run the tests in it", readme.contains("\n.ci/run\n"), true);
        System.out.println(wrong == 0 ? asked + " examples are as shown" : wrong + " things are not as shown");
        if (wrong != 0) {
            System.exit(1);
        }
    }

    private static int constants(String readme) throws ReflectiveOperationException {
        Set<String> shown = new TreeSet<>();
        Matcher constant = CONSTANT.matcher(readme);
        while (constant.find()) {
            shown.add(constant.group(1));
            due(constant.group(1), number(constant.group(1)), number(constant.group(2)));
        }
        due("the constants", shown, new TreeSet<>(Set.of("BAD", "NO", "FULL", "NONE")));
        return shown.size();
    }

    private static int examples(String readme) throws ReflectiveOperationException {
        Set<String> shown = new TreeSet<>();
        Matcher example = EXAMPLE.matcher(readme);
        while (example.find()) {
            shown.add(example.group(1));
            due(example.group(), answer(new ShadowTailor(), example), number(example.group(3)));
        }
        Set<String> calls = new TreeSet<>();
        for (Method method : ShadowTailor.class.getDeclaredMethods()) {
            if (Modifier.isPublic(method.getModifiers())) {
                calls.add(method.getName());
            }
        }
        due("the calls with an example", shown, calls);
        return shown.size();
    }

    private static int steps(String readme) throws ReflectiveOperationException {
        ShadowTailor tailor = new ShadowTailor();
        Matcher text = WRITTEN.matcher(readme);
        due("a text to write in it", text.find(), true);
        text.group(1).chars().forEach(tailor::write);
        int many = 0;
        Matcher step = STEP.matcher(readme);
        while (step.find()) {
            many++;
            due(step.group(), answer(tailor, step), number(step.group(3)));
        }
        due("the program's steps", many, readme.split("\\ntailor\\.").length - 1);
        return many;
    }

    private static long answer(ShadowTailor tailor, Matcher call) throws ReflectiveOperationException {
        Object[] numbers = Arrays.stream(call.group(2).split(",")).map(String::strip).filter(n -> !n.isEmpty())
            .map(Integer::valueOf).toArray();
        Class<?>[] types = new Class<?>[numbers.length];
        Arrays.fill(types, int.class);
        return ((Number) ShadowTailor.class.getMethod(call.group(1), types).invoke(tailor, numbers)).longValue();
    }

    private static long number(String shown) throws ReflectiveOperationException {
        return Character.isLetter(shown.charAt(0)) ? ShadowTailor.class.getField(shown).getInt(null) : Long.parseLong(shown);
    }
}
