/** Promises 32 to 39. */
public final class SheetsTest {
    private static final Checks CHECKS = new Checks();
    private static final int LEAST = Integer.MIN_VALUE;

    public static void main(String[] args) {
        sheetAndLose();
        putAndGet();
        findingsOfGet();
        copy();
        write();
        count();
        digest();
        CHECKS.end();
    }

    private static void sheetAndLose() {
        PedlarPack x = new PedlarPack();
        CHECKS.due("sheet(0, 0, 40)", x.sheet(0, 0, 40), 40);
        CHECKS.due("sheet(3, 2, 0)", x.sheet(3, 2, 0), 0);
        CHECKS.due("put at its end", x.put(0, 0, 39, 7), 1);
        int[][] bad = {{-1, 0, 1}, {4, 0, 1}, {0, -1, 1}, {0, 3, 1}, {0, 0, 41}, {-1, 0, -1}, {0, 3, -1}};
        for (int[] a : bad) {
            CHECKS.due("sheet(" + a[0] + ", " + a[1] + ", " + a[2] + ")", x.sheet(a[0], a[1], a[2]), -2);
        }
        CHECKS.due("no finding yet", x.count(8), 0);
        CHECKS.due("sheet(0, 1, -1)", x.sheet(0, 1, -1), -15);
        CHECKS.due("SIZE", x.count(8), 5);
        CHECKS.due("refusals changed nothing", x.get(0, 0, 39), 7);
        CHECKS.due("sheet(0, 0, 40) anew", x.sheet(0, 0, 40), 40);
        CHECKS.due("its items are 0", x.get(0, 0, 39), 0);
        for (int wild : Checks.WILD) {
            CHECKS.due("sheet(wild, 0, 0)", x.sheet(wild, 0, 0), -2);
            CHECKS.due("sheet(0, wild, 0)", x.sheet(0, wild, 0), -2);
            CHECKS.due("sheet(0, 0, wild)", x.sheet(0, 0, wild), wild < 0 ? -15 : -2);
            CHECKS.due("lose(wild)", x.lose(wild), -2);
        }
        CHECKS.due("lose(0)", x.lose(0), 40);
        CHECKS.due("lose(0) again", x.lose(0), -11);
        CHECKS.due("NULL", x.count(8), 1);
        CHECKS.due("lose(3)", x.lose(3), 0);
        CHECKS.due("lose(-1)", x.lose(-1), -2);
        CHECKS.due("lose(4)", x.lose(4), -2);
    }

    private static void putAndGet() {
        PedlarPack x = new PedlarPack();
        int[] values = {0, 127, 128, 255, 256, -1, -129, 32767, 32768, 65536, 98304, Integer.MAX_VALUE, Integer.MIN_VALUE};
        for (int form = 0; form < 3; form++) {
            x.sheet(form, form, values.length);
            for (int i = 0; i < values.length; i++) {
                CHECKS.due("put(" + form + ", .., " + values[i] + ")", x.put(form, form, i, values[i]), 1);
            }
        }
        for (int i = 0; i < values.length; i++) {
            CHECKS.due("byte of " + values[i], x.get(0, 0, i), (byte) values[i]);
            CHECKS.due("short of " + values[i], x.get(1, 1, i), (short) values[i]);
            CHECKS.due("int of " + values[i], x.get(2, 2, i), values[i]);
        }
        CHECKS.due("no finding", x.count(8), 0);
        int size = values.length;
        int[][] refused = {{-1, 0, 0, -2}, {4, 0, 0, -2}, {0, -1, 0, -2}, {0, 3, 0, -2}, {3, 0, 0, -11}, {3, 3, 0, -2},
            {0, 1, 0, -13}, {1, 0, 99, -13}, {2, 1, 0, -13}, {0, 0, -1, -12}, {0, 0, size, -12}, {3, 1, 99, -11}};
        for (int[] a : refused) {
            CHECKS.due("put(" + a[0] + ", " + a[1] + ", " + a[2] + ", 5)", x.put(a[0], a[1], a[2], 5), a[3]);
            if (a[3] < -10) {
                CHECKS.due("its finding", x.count(8), -10 - a[3]);
            }
        }
        for (int wild : Checks.WILD) {
            CHECKS.due("put(wild, 0, 0, 0)", x.put(wild, 0, 0, 0), -2);
            CHECKS.due("put(0, wild, 0, 0)", x.put(0, wild, 0, 0), -2);
            CHECKS.due("put(0, 0, wild, 0)", x.put(0, 0, wild, 0), -12);
        }
        CHECKS.due("refusals changed nothing", x.get(0, 0, 0) + x.get(1, 1, 0) + x.get(2, 2, 0), 0);
    }

    private static void findingsOfGet() {
        PedlarPack x = new PedlarPack();
        x.sheet(0, 0, 2);
        int[][] refused = {{-1, 0, 0, 0}, {4, 0, 0, 0}, {0, -1, 0, 0}, {0, 3, 0, 0}, {1, 0, 0, 1}, {1, 3, 0, 1}, {0, 0, 2, 2}, {0, 0, -1, 2},
            {0, 1, 0, 3}, {0, 2, 9, 3}, {1, 1, 9, 1}};
        for (int[] a : refused) {
            CHECKS.due("get(" + a[0] + ", " + a[1] + ", " + a[2] + ")", x.get(a[0], a[1], a[2]), LEAST);
            CHECKS.due("count(8) after it", x.count(8), a[3]);
        }
        for (int wild : Checks.WILD) {
            CHECKS.due("get(wild, 0, 0)", x.get(wild, 0, 0), LEAST);
            CHECKS.due("get(0, wild, 0)", x.get(0, wild, 0), LEAST);
            CHECKS.due("get(0, 0, wild)", x.get(0, 0, wild), LEAST);
        }
    }

    private static void copy() {
        PedlarPack x = new PedlarPack();
        Checks.lay(x, 0, 1, 2, 3, 4, 5);
        x.sheet(1, 2, 3);
        CHECKS.due("copy(0, 2, 1, 0, 3)", x.copy(0, 2, 1, 0, 3), 1);
        dueItems(x, 1, 3, 4, 5);
        CHECKS.due("over itself, up", x.copy(0, 0, 0, 1, 4), 1);
        dueItems(x, 0, 1, 1, 2, 3, 4);
        CHECKS.due("over itself, down", x.copy(0, 2, 0, 0, 3), 1);
        dueItems(x, 0, 2, 3, 4, 3, 4);
        CHECKS.due("none at the ends", x.copy(0, 5, 1, 3, 0), 1);
        CHECKS.due("no finding", x.count(8), 0);
        x.sheet(2, 1, 5);
        int[][] refused = {{-1, 0, 0, 0, 0, -2}, {4, 0, 0, 0, 0, -2}, {0, 0, -1, 0, 0, -2}, {0, 0, 4, 0, 0, -2}, {3, 0, 4, 0, 0, -2},
            {3, 0, 0, 0, 0, -11}, {0, 0, 3, 0, 0, -11}, {2, -1, 3, 0, 0, -11}, {0, 0, 2, 0, 0, -14}, {2, -1, 0, 0, 0, -14},
            {0, -1, 1, 0, 1, -12}, {0, 0, 1, -1, 1, -12}, {0, 0, 1, 0, -1, -12}, {0, 3, 1, 0, 3, -12}, {0, 0, 1, 1, 3, -12},
            {0, 6, 1, 0, 0, -12}, {0, 0, 1, 4, 0, -12}, {0, 1, 1, 0, Integer.MAX_VALUE, -12}, {0, Integer.MAX_VALUE, 1, 0, 1, -12},
            {0, 0, 1, Integer.MAX_VALUE, Integer.MAX_VALUE, -12}, {0, Integer.MIN_VALUE, 1, 0, Integer.MIN_VALUE, -12},
            {0, Integer.MAX_VALUE, 0, Integer.MAX_VALUE, Integer.MAX_VALUE, -12}};
        for (int[] a : refused) {
            CHECKS.due("copy() of " + java.util.Arrays.toString(a), x.copy(a[0], a[1], a[2], a[3], a[4]), a[5]);
            if (a[5] < -10) {
                CHECKS.due("its finding", x.count(8), -10 - a[5]);
            }
        }
        for (int wild : Checks.WILD) {
            CHECKS.due("copy(wild, ..)", x.copy(wild, 0, 0, 0, 0) + x.copy(0, 0, wild, 0, 0), -4);
            CHECKS.due("copy() of wild places", x.copy(0, wild, 1, 0, 0) + x.copy(0, 0, 1, wild, 0) + x.copy(0, 0, 1, 0, wild), -36);
        }
        dueItems(x, 0, 2, 3, 4, 3, 4);
        dueItems(x, 1, 3, 4, 5);
        x.put(1, 2, 0, 99);
        CHECKS.due("a copy is one of its own", x.get(0, 2, 2), 4);
    }

    private static void dueItems(PedlarPack x, int s, int... items) {
        for (int i = 0; i < items.length; i++) {
            CHECKS.due("item " + i + " of " + s, x.get(s, 2, i), items[i]);
        }
    }

    private static void write() {
        PedlarPack x = new PedlarPack();
        Checks.wants(x, "1:0=16,16,16;2:0=16,16,16;1:5=16,16,16");
        Checks.row(x, 1, 2);
        for (int form = 0; form < 3; form++) {
            x.sheet(form, form, 8);
            for (int i = 0; i < 8; i++) {
                x.put(form, form, i, 9);
            }
            CHECKS.due("write(" + form + ")", x.write(form), 6);
            int[] items = {2, 0, 0, 0, 0, 1, 9, 9};
            for (int i = 0; i < 8; i++) {
                CHECKS.due("item " + i + " of it", x.get(form, form, i), items[i]);
            }
        }
        x.sheet(0, 0, 2);
        CHECKS.due("write() where there are two", x.write(0), 2);
        CHECKS.due("the first", x.get(0, 0, 0), 2);
        x.sheet(0, 0, 0);
        CHECKS.due("write() where there are none", x.write(0), 0);
        CHECKS.due("what was written is a pack", x.pack(1), 3);
        CHECKS.due("write(-1)", x.write(-1), -2);
        CHECKS.due("write(4)", x.write(4), -2);
        for (int wild : Checks.WILD) {
            CHECKS.due("write(wild)", x.write(wild), -2);
        }
        CHECKS.due("no finding yet", x.count(8), 0);
        x.lose(2);
        CHECKS.due("write() to a lost sheet", x.write(2), -11);
        CHECKS.due("its finding", x.count(8), 1);
    }

    private static void count() {
        PedlarPack x = new PedlarPack();
        x.road(0, 1, 3);
        x.road(2, 1, 3);
        Checks.wants(x, "1:0=9,4,0;7:5=1,1,1");
        x.shop(0, 4);
        Checks.row(x, 3, 1, 2);
        Checks.pack(x, 1, 2, 3, 0, 0, 0);
        Checks.type(x, "abc");
        x.set(0, 33);
        x.set(1, 44);
        x.set(2, 85);
        x.lose(3);
        x.lose(3);
        int[] due = {3, 6, 2, 4, 3, 33, 44, 85, 1};
        for (int what = 0; what < 9; what++) {
            CHECKS.due("count(" + what + ")", x.count(what), due[what]);
        }
        CHECKS.due("count(-1)", x.count(-1), -2);
        CHECKS.due("count(9)", x.count(9), -2);
        for (int wild : Checks.WILD) {
            CHECKS.due("count(wild)", x.count(wild), -2);
        }
    }

    private static void digest() {
        PedlarPack x = new PedlarPack();
        int[][] figures = new int[6][];
        java.util.Arrays.fill(figures, new int[] {1, 1, 0, 2, 3, 4});
        CHECKS.due("digest() of a new one", x.digest(), digestOf(x, figures));
        x.road(0, 1, 3);
        figures[0] = new int[] {2, 3, 4, 5, 6, 7};
        figures[3] = new int[] {3, 5, 0, 7, 9, 30};
        Checks.thing(x, 0, figures[0]);
        Checks.thing(x, 3, figures[3]);
        CHECKS.due("digest() of things", x.digest(), digestOf(x, figures));
        Checks.wants(x, "1:0=11,9,7;2:0=3,2,1;1:3=10,8,5");
        Checks.row(x, 1, 2);
        Checks.pack(x, 1, 0, 0, 2, 0, 1);
        Checks.type(x, "1:0=3,2,1;x");
        x.set(1, 9);
        CHECKS.due("digest() of all", x.digest(), digestOf(x, figures));
        long ahead = x.digest();
        x.put(0, 9, 9, 9);
        x.get(2, 0, 0);
        CHECKS.due("a finding is not in it", x.digest(), ahead);
        CHECKS.due("it leaves the finding", x.count(8), 1);
    }

    private static long digestOf(PedlarPack x, int[][] figures) {
        java.util.List<Long> told = new java.util.ArrayList<>();
        for (int what = 0; what < 8; what++) {
            told.add((long) x.count(what));
        }
        told.add((long) x.fault());
        for (int thing = 0; thing < 6; thing++) {
            for (int what = 0; what < 6; what++) {
                told.add((long) figures[thing][what]);
            }
            told.add((long) x.best(thing));
            told.add((long) x.loaded(thing));
        }
        told.add((long) x.hours());
        told.add((long) x.judged());
        told.add(x.gain(0));
        told.add(x.gain(1));
        for (int which = 0; which < 3; which++) {
            told.add(x.load(which, 0));
            told.add(x.load(which, 1));
        }
        told.add((long) x.straps());
        long h = 17;
        for (long one : told) {
            h = 31 * h + one;
        }
        return h;
    }
}
