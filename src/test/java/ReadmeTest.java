import java.nio.file.Files;
import java.nio.file.Path;
import java.util.List;
import java.util.Set;
import java.util.TreeSet;
import java.util.regex.Matcher;
import java.util.regex.Pattern;
import java.util.stream.Collectors;
import java.util.stream.Stream;

/** README.md says how the class is used as it stands: its calls are made, its answers compared. */
public final class ReadmeTest {
    private static final Checks CHECKS = new Checks();
    private static final Pattern TYPED = Pattern.compile("type\\(x, \"([^\"]*)\"\\);");
    private static final Pattern CALL = Pattern.compile("x\\.(\\w+)\\(([-0-9, ]*)\\); +// (-?\\d+)(:.*)?");

    public static void main(String[] args) throws Exception {
        String text = Files.readString(Path.of("README.md"));
        example(text);
        names(text);
        CHECKS.end();
    }

    private static void example(String text) throws Exception {
        Matcher block = Pattern.compile("(?s)```java\n(.*?)```").matcher(text);
        CHECKS.due("there is an example", block.find() ? 1 : 0, 1);
        List<String> lines = block.group(1).lines().filter(line -> !line.isBlank()).toList();
        CHECKS.due(lines.get(0), lines.get(0).equals("PedlarPack x = new PedlarPack();") ? 1 : 0, 1);
        PedlarPack x = new PedlarPack();
        for (String line : lines.subList(1, lines.size())) {
            say(x, line);
        }
    }

    private static void say(PedlarPack x, String line) throws Exception {
        Matcher typed = TYPED.matcher(line);
        Matcher call = CALL.matcher(line);
        if (typed.matches()) {
            Checks.type(x, typed.group(1));
        } else if (call.matches()) {
            CHECKS.due("README.md: " + line, answer(x, call.group(1), call.group(2)), Long.parseLong(call.group(3)));
        } else {
            CHECKS.due("README.md has a line that is no call with its answer: " + line, 1, 0);
        }
    }

    private static long answer(PedlarPack x, String name, String numbers) throws Exception {
        Object[] values = Stream.of(numbers.split(", ")).filter(part -> !part.isEmpty()).map(Integer::valueOf).toArray();
        Class<?>[] types = new Class<?>[values.length];
        java.util.Arrays.fill(types, int.class);
        return ((Number) PedlarPack.class.getMethod(name, types).invoke(x, values)).longValue();
    }

    private static void names(String text) throws Exception {
        Set<String> there;
        try (Stream<Path> files = Files.list(Path.of("src/test/java"))) {
            there = files.map(file -> file.getFileName().toString()).filter(name -> name.endsWith("Test.java"))
                    .map(name -> name.replace(".java", "")).collect(Collectors.toCollection(TreeSet::new));
        }
        Matcher named = Pattern.compile("`(\\w+Test)`").matcher(text);
        Set<String> told = new TreeSet<>();
        while (named.find()) {
            told.add(named.group(1));
        }
        for (String name : there) {
            boolean known = told.contains(name) || name.startsWith("Edges") && text.contains("`Edges..Test`");
            CHECKS.due("README.md names " + name, known ? 1 : 0, 1);
        }
        for (String name : told) {
            CHECKS.due("README.md names " + name + ", which is there", there.contains(name) ? 1 : 0, 1);
        }
    }
}
