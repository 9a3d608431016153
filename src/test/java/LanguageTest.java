import java.lang.reflect.Field;
import java.lang.reflect.Method;
import java.lang.reflect.Modifier;
import java.nio.file.Files;
import java.nio.file.Path;
import java.util.Set;
import java.util.TreeSet;
import java.util.regex.Matcher;
import java.util.regex.Pattern;

/** What of LANGUAGE.md can be seen by looking: the face, the words that are not used, the room that calls take. */
public final class LanguageTest {
    private static final Checks CHECKS = new Checks();
    private static final String[] FACE = {
        "int thing(int, int, int)", "int road(int, int, int)", "int way(int, int)", "int set(int, int)", "int type(int)", "int wipe()",
        "int fault()", "int wants()", "int read(int, int)", "int chance(int, int, int)", "int shop(int, int)", "int row(int)",
        "int pack(int)", "int judged()", "int hours()", "long sold(int, int, int, int, int)", "int ask(int, int, int)",
        "long value(int, int, int, int)", "long gain(int)", "int best(int)", "long load(int, int)", "int loaded(int)", "int round(int)",
        "long rounds(int)", "int onward(int, int)", "int trust(int, int, int, int, int)", "int two(int)", "long both(int)",
        "long brings(int, int)", "int straps()", "int sheet(int, int, int)", "int lose(int)", "int put(int, int, int, int)",
        "int get(int, int, int)", "int copy(int, int, int, int, int)", "int write(int)", "int count(int)", "long digest()"};

    public static void main(String[] args) throws Exception {
        face();
        words();
        room();
        CHECKS.end();
    }

    private static void face() {
        Set<String> due = new TreeSet<>(Set.of(FACE));
        Set<String> seen = new TreeSet<>();
        Set<String> open = new TreeSet<>();
        for (Method method : PedlarPack.class.getDeclaredMethods()) {
            if (!Modifier.isPrivate(method.getModifiers())) {
                String text = method.toString().replaceAll("public |PedlarPack\\.", "").replace(",", ", ");
                seen.add(text);
                open.add(method.getName());
            }
        }
        CHECKS.due("the face is " + seen, seen.equals(due) ? 1 : 0, 1);
        for (Class<?> type : PedlarPack.class.getDeclaredClasses()) {
            CHECKS.due(type + " is static", Modifier.isStatic(type.getModifiers()) ? 1 : 0, 1);
            CHECKS.due(type + " has some twenty fields at most", type.getDeclaredFields().length <= 20 ? 1 : 0, 1);
            for (Method method : type.getDeclaredMethods()) {
                CHECKS.due(method + " has a name of the face", open.contains(method.getName()) ? 1 : 0, 0);
                CHECKS.due(method + " has seven parameters at most", method.getParameterCount() <= 7 ? 1 : 0, 1);
            }
        }
        for (Method method : PedlarPack.class.getDeclaredMethods()) {
            boolean twice = Modifier.isPrivate(method.getModifiers()) && open.contains(method.getName());
            CHECKS.due(method + " has a name of the face", twice ? 1 : 0, 0);
        }
        Set<String> constants = new TreeSet<>();
        for (Field field : PedlarPack.class.getDeclaredFields()) {
            if (!Modifier.isPrivate(field.getModifiers())) {
                constants.add(field.getName());
            }
        }
        CHECKS.due("the constants are " + constants, constants.equals(Set.of("NONE", "BAD", "NOT", "FULL")) ? 1 : 0, 1);
        CHECKS.due("there are twelve classes at most", PedlarPack.class.getDeclaredClasses().length <= 11 ? 1 : 0, 1);
    }

    private static void words() throws Exception {
        String text = Files.readString(Path.of("src/main/java/PedlarPack.java"));
        String code = text.replaceAll("(?s)/\\*.*?\\*/", "").replaceAll("//[^\n]*", "");
        Matcher not = Pattern.compile("\\b(throw|throws|try|catch|synchronized|assert|import|package|protected|native|volatile|var|System"
                + "\\.(?!arraycopy)\\w+|Object|Exception|\\w+Exact|hashCode|toString)\\b|->|::|@\\w+").matcher(code);
        while (not.find()) {
            CHECKS.due("the word " + not.group(), 1, 0);
        }
        // Rule 4 lists functions of these, no constants: MIN_VALUE is not among them.
        Matcher library = Pattern.compile("\\b(Math|Integer|Long)\\.(\\w+)").matcher(code);
        while (library.find()) {
            boolean known = Set.of("min", "max", "abs", "bitCount").contains(library.group(2));
            CHECKS.due("the library's " + library.group(), known ? 1 : 0, 1);
        }
        for (int i = 0; i < text.length(); i++) {
            if (text.charAt(i) > 126) {
                CHECKS.due("sign " + i, text.charAt(i), 0);
            }
        }
        String[] lines = text.split("\n");
        int start = 0;
        for (int i = 0; i < lines.length; i++) {
            if (lines[i].matches("( {4}| {8})\\S.*\\) \\{")) {
                start = i;
            } else if (lines[i].matches("( {4}| {8})\\}") && i - start > 60) {
                CHECKS.due("a method of " + (i - start) + " lines up to line " + (i + 1), 1, 0);
            }
        }
    }

    /** All calls live in one room: none of them may make anything. */
    private static void room() {
        com.sun.management.ThreadMXBean threads = (com.sun.management.ThreadMXBean) java.lang.management.ManagementFactory.getThreadMXBean();
        PedlarPack x = new PedlarPack();
        x.set(2, 31);
        for (int farm = 1; farm <= 5; farm++) {
            x.road(0, farm, farm);
            Checks.wants(x, farm + ":0=16,9,4;" + farm + ":3=12,8,3");
        }
        Checks.row(x, 1, 2, 3, 4, 5);
        long sum = 0;
        long id = Thread.currentThread().getId();
        sum += allCalls(x);
        long ahead = threads.getThreadAllocatedBytes(id);
        for (int turn = 0; turn < 10; turn++) {
            sum += allCalls(x);
        }
        long made = threads.getThreadAllocatedBytes(id) - ahead;
        CHECKS.due("some 150 calls made " + made + " bytes (" + sum + ")", made < 4096 ? 1 : 0, 1);
    }

    private static long allCalls(PedlarPack x) {
        x.sheet(0, 2, 40);
        x.shop(5, 1);
        return x.round(-1) + x.rounds(0) + x.two(0) + x.both(0) + x.onward(0, 0) + x.digest() + x.straps() + x.brings(0, 0) + x.write(0)
                + x.copy(0, 0, 0, 5, 10) + x.sold(0, 4, 0, -1, 0) + x.ask(0, 0, 1) + x.value(0, 0, 4, 0) + x.trust(0, 0, 1, 0, 5)
                + x.fault() + x.read(0, 7);
    }
}
