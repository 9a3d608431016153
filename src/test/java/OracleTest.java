import java.lang.reflect.Method;
import java.util.ArrayList;
import java.util.Arrays;
import java.util.Comparator;
import java.util.List;
import java.util.Random;

/** Runs of calls by chance, wrong ones among them, with the answers of Oracle. Arguments: first run, how many. */
public final class OracleTest {
    private static final int[] WILD = {Integer.MIN_VALUE, -1000, -3, -2, -1, 41, 100, 101, 200, 201, 1000, Integer.MAX_VALUE};
    private static final String SIGNS = "12345670,,,:;=116 x";
    private final Random random;
    private final PedlarPack mine = new PedlarPack();
    private final Oracle theirs = new Oracle();
    private final List<String> told = new ArrayList<>();
    private final Method[] methods;
    // Few different numbers, so that much is alike and the rules for like ones are tried.
    private final boolean alike;
    private int wrong = 0;

    private OracleTest(long seed) {
        random = new Random(seed);
        alike = seed % 2 == 0;
        methods = PedlarPack.class.getDeclaredMethods();
        Arrays.sort(methods, Comparator.comparing(Method::getName));
    }

    public static void main(String[] args) throws Exception {
        int first = args.length > 0 ? Integer.parseInt(args[0]) : 1;
        int runs = args.length > 1 ? Integer.parseInt(args[1]) : 120;
        int wrong = 0;
        int calls = 0;
        for (int seed = first; seed < first + runs && wrong < 5; seed++) {
            OracleTest test = new OracleTest(seed);
            test.run();
            calls += test.told.size();
            if (test.wrong > 0) {
                wrong++;
                System.out.println("run " + seed + ": " + String.join("; ", test.told));
            }
        }
        System.out.println(calls + " calls in " + runs + " runs, " + wrong + " runs with a wrong answer");
        if (wrong > 0) {
            System.exit(1);
        }
    }

    private void run() throws Exception {
        prepare();
        List<Method> open = new ArrayList<>();
        for (Method method : methods) {
            if (java.lang.reflect.Modifier.isPublic(method.getModifiers())) {
                open.add(method);
            }
        }
        // No more calls than the document allows, and one turn may take some forty.
        while (wrong == 0 && told.size() < 460) {
            int turn = random.nextInt(100);
            if (turn < 4) {
                line(random.nextInt(3) == 0);
            } else if (turn < 7) {
                rowAndPack();
            } else {
                Method method = open.get(random.nextInt(open.size()));
                if (!isDear(method.getName()) || random.nextInt(4) == 0) {
                    call(method);
                }
            }
        }
    }

    private static boolean isDear(String name) {
        return List.of("round", "rounds", "two", "both", "onward").contains(name);
    }

    private void prepare() throws Exception {
        boolean free = random.nextBoolean();
        for (int t = 0; t < 6; t++) {
            int[] prices = {price(), price(), price()};
            Arrays.sort(prices);
            for (int l = 2; l >= 0; l--) {
                say("thing", t, 3 + l, prices[l]);
            }
            say("thing", t, 0, alike ? random.nextInt(3) : random.nextInt(free ? 20 : 60));
            say("thing", t, 1, 1 + random.nextInt(alike ? 3 : free ? 6 : 20));
            say("thing", t, 2, alike ? random.nextInt(2) : random.nextInt(free ? 5 : 40));
        }
        int roads = 6 + random.nextInt(12);
        for (int n = 0; n < roads; n++) {
            say("road", random.nextInt(8), random.nextInt(8), 1 + random.nextInt(alike ? 3 : 20));
        }
        for (int farm = 1; farm <= 7; farm++) {
            if (random.nextInt(5) > 0) {
                chances(farm);
            }
        }
        say("set", 0, alike ? 5 + random.nextInt(20) : 20 + random.nextInt(181));
        say("set", 1, 1 + random.nextInt(alike ? 15 : 100));
        openSome();
        rowAndPack();
    }

    private int price() {
        return alike ? 2 * random.nextInt(5) : random.nextInt(100);
    }

    private void openSome() throws Exception {
        int set = random.nextInt(128);
        while (Integer.bitCount(set) > 3 + random.nextInt(3)) {
            set &= set - 1 + random.nextInt(2);
        }
        say("set", 2, set);
    }

    private void chances(int farm) throws Exception {
        int s = random.nextInt(4);
        int n = 18 + random.nextInt(3);
        say("sheet", s, 0, n);
        for (int t = 0; t < 6; t++) {
            if (random.nextInt(3) == 0) {
                continue;
            }
            int c = alike ? 8 + 8 * random.nextInt(2) : 16 - random.nextInt(5);
            for (int l = 0; l < 3; l++) {
                say("put", s, 0, 3 * t + l, c);
                c = alike ? c / (1 + random.nextInt(2)) : random.nextInt(c + 1);
            }
        }
        say("read", s, farm);
    }

    private void rowAndPack() throws Exception {
        int s = random.nextInt(4);
        List<Integer> farms = new ArrayList<>(List.of(1, 2, 3, 4, 5, 6, 7));
        java.util.Collections.shuffle(farms, random);
        int n = random.nextInt(8);
        say("sheet", s, 0, n);
        for (int i = 0; i < n; i++) {
            say("put", s, 0, i, farms.get(i));
        }
        say("row", s);
        say("sheet", s, 1, 6);
        for (int t = 0; t < 6; t++) {
            say("put", s, 1, t, random.nextInt(5));
        }
        say("pack", s);
    }

    private void line(boolean broken) throws Exception {
        StringBuilder text = new StringBuilder();
        int parts = 1 + random.nextInt(3);
        for (int n = 0; n < parts; n++) {
            int a = random.nextInt(17);
            int b = random.nextInt(a + 1);
            text.append(n == 0 ? "" : ";").append(1 + random.nextInt(7)).append(':').append(random.nextInt(6)).append('=');
            text.append(a).append(',').append(b < 10 && random.nextBoolean() ? "0" : "").append(b).append(',').append(random.nextInt(b + 1));
        }
        if (broken) {
            text.setCharAt(random.nextInt(text.length()), SIGNS.charAt(random.nextInt(SIGNS.length())));
            text.setLength(1 + random.nextInt(text.length()));
        }
        say("wipe");
        for (int i = 0; i < text.length(); i++) {
            say("type", text.charAt(i));
        }
        say("fault");
        if (random.nextInt(4) > 0) {
            say("wants");
        }
    }

    private void call(Method method) throws Exception {
        int[] args = new int[method.getParameterCount()];
        int[][] usual = usual(method.getName());
        for (int i = 0; i < args.length; i++) {
            args[i] = usual[i][0] + random.nextInt(usual[i][1] - usual[i][0] + 1);
        }
        if (method.getName().equals("set") && args[0] == 2) {
            openSome();
            return;
        }
        if (args.length > 0 && random.nextInt(12) == 0) {
            int at = random.nextInt(args.length);
            args[at] = random.nextBoolean() ? WILD[random.nextInt(WILD.length)] : random.nextBoolean() ? usual[at][0] - 1 : usual[at][1] + 1;
        }
        say(method.getName(), args);
    }

    private static int[][] usual(String name) {
        switch (name) {
            case "thing": return new int[][] {{0, 5}, {0, 5}, {0, 30}};
            case "road": return new int[][] {{0, 7}, {0, 7}, {0, 60}};
            case "way": return new int[][] {{0, 7}, {0, 7}};
            case "set": return new int[][] {{0, 2}, {1, 100}};
            case "type": return new int[][] {{44, 61}};
            case "read": return new int[][] {{0, 3}, {1, 7}};
            case "chance": return new int[][] {{1, 7}, {0, 5}, {0, 2}};
            case "shop": return new int[][] {{0, 5}, {0, 6}};
            case "row": case "pack": case "lose": case "write": return new int[][] {{0, 3}};
            case "sold": return new int[][] {{0, 5}, {0, 4}, {0, 2}, {-1, 4}, {0, 1}};
            case "ask": return new int[][] {{0, 5}, {0, 4}, {1, 4}};
            case "value": return new int[][] {{0, 5}, {0, 5}, {0, 4}, {0, 1}};
            case "gain": case "rounds": case "two": case "both": return new int[][] {{0, 1}};
            case "best": case "loaded": return new int[][] {{-1, 5}};
            case "load": return new int[][] {{0, 2}, {0, 1}};
            case "round": return new int[][] {{-1, 5}};
            case "onward": return new int[][] {{0, 7}, {0, 90}};
            case "trust": return new int[][] {{0, 5}, {0, 4}, {1, 4}, {0, 2}, {0, 16}};
            case "brings": return new int[][] {{0, 5}, {0, 1}};
            case "sheet": return new int[][] {{0, 3}, {0, 2}, {0, 40}};
            case "put": return new int[][] {{0, 3}, {0, 2}, {0, 20}, {-3, 400}};
            case "get": return new int[][] {{0, 3}, {0, 2}, {0, 20}};
            case "copy": return new int[][] {{0, 3}, {0, 8}, {0, 3}, {0, 8}, {0, 8}};
            case "count": return new int[][] {{0, 8}};
            default: return new int[][] {};
        }
    }

    private void say(String name, int... args) throws Exception {
        if (wrong > 0 || told.size() >= 512) {
            return;
        }
        Class<?>[] types = new Class<?>[args.length];
        Object[] values = new Object[args.length];
        for (int i = 0; i < args.length; i++) {
            types[i] = int.class;
            values[i] = args[i];
        }
        Number got = (Number) PedlarPack.class.getMethod(name, types).invoke(mine, values);
        Number due = (Number) Oracle.class.getMethod(name, types).invoke(theirs, values);
        told.add(name + Arrays.toString(args) + " " + got);
        if (got.longValue() != due.longValue()) {
            wrong++;
            told.add("due is " + due);
        }
    }
}
