/** Promises 1 to 5. */
public final class ThingsPlacesTest {
    private static final Checks CHECKS = new Checks();

    public static void main(String[] args) {
        newObject();
        thing();
        wrongThing();
        road();
        way();
        set();
        CHECKS.end();
    }

    private static void newObject() {
        PedlarPack x = new PedlarPack();
        CHECKS.due("NONE", PedlarPack.NONE, -1);
        CHECKS.due("BAD", PedlarPack.BAD, -2);
        CHECKS.due("NOT", PedlarPack.NOT, -3);
        CHECKS.due("FULL", PedlarPack.FULL, -4);
        int[] counts = {0, 0, 0, 0, 0, 60, 20, 127, 0};
        for (int what = 0; what < 9; what++) {
            CHECKS.due("new: count(" + what + ")", x.count(what), counts[what]);
        }
        for (int a = 0; a < 8; a++) {
            for (int b = 0; b < 8; b++) {
                CHECKS.due("new: way(" + a + ", " + b + ")", x.way(a, b), a == b ? 0 : 1000);
            }
        }
        for (int s = 0; s < 4; s++) {
            CHECKS.due("new: lose(" + s + ")", x.lose(s), -11);
        }
        CHECKS.due("new: fault()", x.fault(), 0);
        CHECKS.due("new: judged()", x.judged(), 0);
        CHECKS.due("new: straps()", x.straps(), -1);
    }

    private static void thing() {
        PedlarPack x = new PedlarPack();
        int[] first = {1, 1, 0, 2, 3, 4};
        int[] then = {99, 20, 99, 97, 98, 99};
        for (int thing = 0; thing < 6; thing++) {
            for (int what = 5; what >= 0; what--) {
                CHECKS.due("thing(" + thing + ", " + what + ", ..) at first", x.thing(thing, what, then[what]), first[what]);
            }
        }
        for (int thing = 0; thing < 6; thing++) {
            for (int what = 0; what < 6; what++) {
                int least = what == 1 ? 1 : 0;
                CHECKS.due("thing(" + thing + ", " + what + ", ..) then",
                        x.thing(thing, what, what < 3 ? least : then[what]), then[what]);
            }
        }
    }

    private static void wrongThing() {
        PedlarPack x = new PedlarPack();
        x.thing(2, 5, 9);
        x.thing(2, 4, 6);
        x.thing(2, 3, 5);
        int[][] bad = {{2, 3, 7}, {2, 4, 4}, {2, 4, 10}, {2, 5, 5}, {2, 3, -1}, {2, 5, 100}, {2, 0, -1}, {2, 0, 100},
            {2, 1, 0}, {2, 1, 21}, {2, 2, -1}, {2, 2, 100}, {-1, 0, 1}, {6, 0, 1}, {2, -1, 1}, {2, 6, 1}, {2, 6, 99}, {2, 7, 99}};
        for (int[] a : bad) {
            CHECKS.due("thing(" + a[0] + ", " + a[1] + ", " + a[2] + ")", x.thing(a[0], a[1], a[2]), -2);
        }
        for (int wild : Checks.WILD) {
            CHECKS.due("thing(wild, 0, 1)", x.thing(wild, 0, 1), -2);
            CHECKS.due("thing(0, wild, 1)", x.thing(0, wild, 1), -2);
            for (int what = 0; what < 6; what++) {
                CHECKS.due("thing(0, " + what + ", wild)", x.thing(0, what, wild), -2);
            }
        }
        CHECKS.due("alike with the one behind", x.thing(2, 3, 6), 5);
        CHECKS.due("alike with both", x.thing(2, 4, 6), 6);
        CHECKS.due("alike with the one ahead", x.thing(2, 5, 6), 9);
        CHECKS.due("refusals changed nothing", x.thing(2, 0, 1) + 10 * x.thing(2, 1, 1) + 100 * x.thing(2, 2, 0), 11);
    }

    private static void road() {
        PedlarPack x = new PedlarPack();
        CHECKS.due("road(0, 7, 60)", x.road(0, 7, 60), 0);
        CHECKS.due("road(7, 0, 1)", x.road(7, 0, 1), 60);
        CHECKS.due("road(0, 7, 1) again", x.road(0, 7, 1), 1);
        CHECKS.due("count(2)", x.count(2), 1);
        x.road(3, 4, 9);
        CHECKS.due("count(2) of two", x.count(2), 2);
        CHECKS.due("road(4, 3, 0)", x.road(4, 3, 0), 9);
        CHECKS.due("count(2) with one gone", x.count(2), 1);
        CHECKS.due("way without it", x.way(3, 4), 1000);
        int[][] bad = {{0, 0, 1}, {7, 7, 0}, {0, 8, 1}, {8, 0, 1}, {-1, 0, 1}, {0, -1, 1}, {0, 7, 61}, {0, 7, -1}};
        for (int[] a : bad) {
            CHECKS.due("road(" + a[0] + ", " + a[1] + ", " + a[2] + ")", x.road(a[0], a[1], a[2]), -2);
        }
        for (int wild : Checks.WILD) {
            CHECKS.due("road(wild, 1, 1)", x.road(wild, 1, 1), -2);
            CHECKS.due("road(1, wild, 1)", x.road(1, wild, 1), -2);
            CHECKS.due("road(1, 2, wild)", x.road(1, 2, wild), -2);
        }
        CHECKS.due("refusals changed nothing", x.road(0, 7, 1), 1);
    }

    private static void way() {
        PedlarPack x = new PedlarPack();
        x.road(0, 1, 60);
        for (int farm = 1; farm < 7; farm++) {
            x.road(farm, farm + 1, 60);
        }
        CHECKS.due("the longest way", x.way(0, 7), 420);
        CHECKS.due("and back", x.way(7, 0), 420);
        x.road(7, 3, 10);
        CHECKS.due("over a new road", x.way(0, 7), 190);
        CHECKS.due("round it", x.way(5, 7), 120);
        CHECKS.due("quicker round than straight", x.way(3, 6), 70);
        x.road(7, 3, 0);
        CHECKS.due("that road gone", x.way(0, 7), 420);
        CHECKS.due("at one place", x.way(4, 4), 0);
        x.road(0, 5, 3);
        CHECKS.due("over home", x.way(1, 5), 63);
        int[][] bad = {{-1, 0}, {8, 0}, {0, -1}, {0, 8}};
        for (int[] a : bad) {
            CHECKS.due("way(" + a[0] + ", " + a[1] + ")", x.way(a[0], a[1]), -2);
        }
        for (int wild : Checks.WILD) {
            CHECKS.due("way(wild, 1)", x.way(wild, 1), -2);
            CHECKS.due("way(1, wild)", x.way(1, wild), -2);
        }
    }

    private static void set() {
        PedlarPack x = new PedlarPack();
        int[][] calls = {{0, 1, 60}, {0, 200, 1}, {1, 1, 20}, {1, 100, 1}, {2, 0, 127}, {2, 127, 0},
            {0, 0, -2}, {0, 201, -2}, {1, 0, -2}, {1, 101, -2}, {2, -1, -2}, {2, 128, -2}, {3, 1, -2}, {-1, 1, -2}};
        for (int[] a : calls) {
            CHECKS.due("set(" + a[0] + ", " + a[1] + ")", x.set(a[0], a[1]), a[2]);
        }
        for (int wild : Checks.WILD) {
            CHECKS.due("set(wild, 1)", x.set(wild, 1), -2);
            for (int what = 0; what < 3; what++) {
                CHECKS.due("set(" + what + ", wild)", x.set(what, wild), -2);
            }
        }
        CHECKS.due("hours of the day", x.count(5), 200);
        CHECKS.due("limit", x.count(6), 100);
        CHECKS.due("open farms", x.count(7), 127);
        x.set(2, 5);
        CHECKS.due("open farms are told as bits", x.count(7), 5);
    }
}
