import java.lang.reflect.Method;
import java.nio.file.Files;
import java.nio.file.Path;
import java.util.Arrays;
import java.util.regex.Matcher;
import java.util.regex.Pattern;

/** What README.md shows is so: its calls answer what stands behind them, and it names every test there is. */
public final class ReadmeTest {
    private static final Pattern CALL = Pattern.compile("(?m)^x\\.(\\w+)\\(([^)]*)\\);(?:\\s*// *(?:(-?\\d+)|\"(.*)\"))?");
    private static final Pattern RULE = Pattern.compile("`(run [^`]*)`");

    public static void main(String[] args) throws Exception {
        Checks checks = new Checks();
        String readme = Files.readString(Path.of("README.md"));
        checkCalls(checks, readme);
        Matcher rule = RULE.matcher(readme);
        checks.holds("README.md shows a rule", rule.find());
        checks.due("rule '" + rule.group(1) + "'", Checks.rule(new HeadHill(), rule.group(1)), 0);
        try (var files = Files.list(Path.of("src/test/java"))) {
            files.map(file -> file.getFileName().toString().replace(".java", "")).sorted()
                    .forEach(name -> checks.holds("README.md names " + name, readme.contains("`" + name + "`")));
        }
        checks.finish("ReadmeTest");
    }

    private static void checkCalls(Checks checks, String readme) throws Exception {
        HeadHill x = new HeadHill();
        int shown = 0;
        Matcher call = CALL.matcher(readme);
        while (call.find()) {
            int[] numbers = call.group(2).isBlank() ? new int[0] : Arrays.stream(call.group(2).split(","))
                    .mapToInt(number -> Integer.decode(number.trim())).toArray();
            Object got = method(call.group(1)).invoke(x, Arrays.stream(numbers).boxed().toArray());
            if (call.group(3) != null) {
                shown++;
                checks.due(call.group(), (Integer) got, Integer.parseInt(call.group(3)));
            }
            if (call.group(4) != null) {
                checks.holds(call.group(), Arrays.equals(numbers, Checks.twentyBytes(call.group(4), 0)));
            }
        }
        checks.holds("README.md shows five answers at least", shown >= 5);
    }

    private static Method method(String name) {
        return Arrays.stream(HeadHill.class.getMethods()).filter(m -> m.getName().equals(name)).findFirst()
                .orElseThrow(() -> new IllegalStateException("README.md calls " + name));
    }
}
