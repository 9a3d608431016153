/** Promises 13 to 17. */
public final class RowsPacksTest {
    private static final Checks CHECKS = new Checks();

    public static void main(String[] args) {
        row();
        pack();
        judgedAndHours();
        sold();
        wrongSold();
        CHECKS.end();
    }

    private static void row() {
        PedlarPack x = new PedlarPack();
        CHECKS.due("a whole row", Checks.row(x, 7, 6, 5, 4, 3, 2, 1), 7);
        CHECKS.due("count(0)", x.count(0), 7);
        int[][] not = {{0}, {8}, {-1}, {1, 1}, {1, 2, 3, 1}, {1, 2, 0}, {257}, {1, 2, 3, 4, 5, 6, 7, 1}, {7, 6, 5, 4, 3, 2, 1, 0},
            {Integer.MIN_VALUE}, {Integer.MAX_VALUE}, {33}, {1, 33}};
        for (int[] farms : not) {
            CHECKS.due("a row of " + farms.length + " with " + farms[farms.length - 1], Checks.row(x, farms), -3);
        }
        int[] many = new int[40];
        CHECKS.due("forty items", Checks.row(x, many), -3);
        CHECKS.due("refusals changed nothing", x.count(0), 7);
        x.sheet(0, 0, 2);
        x.put(0, 0, 0, 3);
        x.put(0, 0, 1, 259);
        CHECKS.due("bytes: 259 is 3", x.row(0), -3);
        x.put(0, 0, 1, 260);
        CHECKS.due("bytes: 260 is 4", x.row(0), 2);
        x.road(0, 3, 1);
        x.road(3, 4, 2);
        CHECKS.due("hours()", x.hours(), 6);
        x.put(0, 0, 1, 5);
        x.lose(0);
        CHECKS.due("the row is as it was told", x.hours(), 6);
        CHECKS.due("an empty row", Checks.row(x), 0);
        CHECKS.due("count(0) of it", x.count(0), 0);
        CHECKS.due("row(-1)", x.row(-1), -2);
        CHECKS.due("row(4)", x.row(4), -2);
        CHECKS.due("no finding yet", x.count(8), 0);
        CHECKS.due("row() of a lost sheet", x.row(1), -11);
        CHECKS.due("the finding", x.count(8), 1);
        for (int wild : Checks.WILD) {
            CHECKS.due("row(wild)", x.row(wild), -2);
            CHECKS.due("pack(wild)", x.pack(wild), -2);
        }
    }

    private static void pack() {
        PedlarPack x = new PedlarPack();
        for (int thing = 0; thing < 6; thing++) {
            x.thing(thing, 1, thing + 1);
        }
        CHECKS.due("a pack", Checks.pack(x, 1, 0, 2, 0, 0, 4), 1 + 6 + 24);
        CHECKS.due("count(1)", x.count(1), 31);
        CHECKS.due("items beyond the sixth", Checks.pack(x, 0, 1, 0, 0, 0, 0, 9, -1), 2);
        CHECKS.due("one is 5", Checks.pack(x, 0, 0, 0, 0, 0, 5), -3);
        CHECKS.due("one is -1", Checks.pack(x, -1, 0, 0, 0, 0, 0), -3);
        CHECKS.due("no finding yet", x.count(8), 0);
        CHECKS.due("five items", Checks.pack(x, 1, 1, 1, 1, 1), -12);
        CHECKS.due("the finding", x.count(8), 2);
        CHECKS.due("INDEX is told ahead of NOT", Checks.pack(x, 9), -12);
        CHECKS.due("no items", Checks.pack(x), -12);
        CHECKS.due("pack(-1)", x.pack(-1), -2);
        CHECKS.due("pack(4)", x.pack(4), -2);
        CHECKS.due("the finding stays", x.count(8), 2);
        CHECKS.due("pack() of a lost sheet", x.pack(0), -11);
        CHECKS.due("refusals changed nothing", x.count(1), 2);
        x.thing(1, 1, 20);
        CHECKS.due("its weight by the weights there are", x.count(1), 20);
        x.sheet(0, 0, 6);
        x.put(0, 0, 5, 256 + 4);
        CHECKS.due("bytes: 260 is 4", x.pack(0), 24);
    }

    private static void judgedAndHours() {
        PedlarPack x = new PedlarPack();
        x.road(0, 1, 20);
        x.road(1, 2, 15);
        Checks.row(x, 2);
        CHECKS.due("there and back", x.hours(), 70);
        CHECKS.due("too long", x.judged(), 2);
        x.set(0, 70);
        CHECKS.due("just in time", x.judged(), 0);
        x.set(0, 69);
        CHECKS.due("an hour late", x.judged(), 2);
        Checks.pack(x, 4, 4, 4, 4, 4, 0);
        CHECKS.due("just at the limit", x.count(1), 20);
        CHECKS.due("the limit isn't passed", x.judged(), 2);
        Checks.pack(x, 4, 4, 4, 4, 4, 1);
        CHECKS.due("too heavy comes first", x.judged(), 1);
        x.set(0, 200);
        CHECKS.due("too heavy", x.judged(), 1);
        x.set(1, 21);
        CHECKS.due("not any more", x.judged(), 0);
        Checks.row(x, 1, 2);
        CHECKS.due("20 15 35", x.hours(), 70);
        Checks.row(x, 1, 3, 2);
        CHECKS.due("no way to 3", x.hours(), 20 + 1000 + 1000 + 35);
        CHECKS.due("so it can't be", x.judged(), 2);
        Checks.row(x);
        CHECKS.due("no row", x.hours(), 0);
    }

    private static void sold() {
        PedlarPack x = new PedlarPack();
        Checks.wants(x, "1:3=16,8,4;2:3=12,8,4;3:3=4,4,4");
        Checks.row(x, 1, 2, 3);
        long[][] level0 = {{0, 1}, {3, 16}, {5, 8}, {3, 16}, {0, 1}};
        for (int j = 0; j < 5; j++) {
            CHECKS.fraction("four, level 0, just " + j, x.sold(3, 4, 0, j, 0), x.sold(3, 4, 0, j, 1), level0[j][0], level0[j][1]);
        }
        CHECKS.fraction("their mean", x.sold(3, 4, 0, -1, 0), x.sold(3, 4, 0, -1, 1), 2, 1);
        CHECKS.fraction("two, just two", x.sold(3, 2, 0, 2, 0), x.sold(3, 2, 0, 2, 1), 13, 16);
        CHECKS.fraction("two, their mean", x.sold(3, 2, 0, -1, 0), x.sold(3, 2, 0, -1, 1), 29, 16);
        CHECKS.fraction("one, just one", x.sold(3, 1, 2, 1, 0), x.sold(3, 1, 2, 1, 1), 37, 64);
        CHECKS.fraction("one, just two", x.sold(3, 1, 2, 2, 0), x.sold(3, 1, 2, 2, 1), 0, 1);
        CHECKS.fraction("none, just none", x.sold(3, 0, 0, 0, 0), x.sold(3, 0, 0, 0, 1), 1, 1);
        CHECKS.fraction("none, their mean", x.sold(3, 0, 0, -1, 0), x.sold(3, 0, 0, -1, 1), 0, 1);
        CHECKS.fraction("another thing", x.sold(2, 4, 0, 0, 0), x.sold(2, 4, 0, 0, 1), 1, 1);
        x.shop(3, 4);
        CHECKS.fraction("with a shop", x.sold(3, 4, 0, 0, 0), x.sold(3, 4, 0, 0, 1), 1, 8);
        Checks.row(x, 3, 1);
        x.shop(3, 0);
        CHECKS.fraction("along another row", x.sold(3, 4, 1, 1, 0), x.sold(3, 4, 1, 1, 1), 1, 2);
        sevenFarms();
    }

    private static void sevenFarms() {
        PedlarPack x = new PedlarPack();
        for (int farm = 1; farm <= 7; farm++) {
            Checks.wants(x, farm + ":0=15,8,1");
        }
        Checks.row(x, 1, 2, 3, 4, 5, 6, 7);
        CHECKS.fraction("seven of one sixteenth, none", x.sold(0, 4, 2, 0, 0), x.sold(0, 4, 2, 0, 1), 170859375, 268435456);
        CHECKS.fraction("seven, none but fifteen sixteenths", x.sold(0, 4, 0, 0, 0), x.sold(0, 4, 0, 0, 1), 1, 268435456);
        CHECKS.fraction("four or more of seven halves", x.sold(0, 4, 1, 4, 0), x.sold(0, 4, 1, 4, 1), 1, 2);
        CHECKS.fraction("the mean of one of seven halves", x.sold(0, 1, 1, -1, 0), x.sold(0, 1, 1, -1, 1), 127, 128);
    }

    private static void wrongSold() {
        PedlarPack x = new PedlarPack();
        int[] good = {0, 1, 0, 0, 0};
        int[][] bad = {{-1, 6}, {-1, 5}, {-1, 3}, {-2, 5}, {-1, 2}};
        for (int at = 0; at < 5; at++) {
            for (int turn = 0; turn < bad[at].length + Checks.WILD.length; turn++) {
                int[] a = good.clone();
                a[at] = turn < bad[at].length ? bad[at][turn] : Checks.WILD[turn - bad[at].length];
                CHECKS.due("sold() with " + a[at] + " at " + at, x.sold(a[0], a[1], a[2], a[3], a[4]), Checks.LONG_BAD);
            }
        }
    }
}
