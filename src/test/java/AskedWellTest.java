/** Promises 18 to 23. */
public final class AskedWellTest {
    private static final Checks CHECKS = new Checks();

    public static void main(String[] args) {
        ask();
        nothingShown();
        value();
        sevenFarms();
        gain();
        bestAndLoaded();
        likeOnes();
        bound();
        wrongNumbers();
        CHECKS.end();
    }

    private static void ask() {
        PedlarPack x = new PedlarPack();
        Checks.thing(x, 0, 0, 1, 0, 10, 16, 40);
        Checks.wants(x, "1:0=16,10,4;2:0=8,5,2;3:0=8,4,2");
        Checks.row(x, 1);
        CHECKS.due("10, 10, 10: the least of like ones", x.ask(0, 0, 1), 0);
        x.thing(0, 4, 17);
        CHECKS.due("10, 10 5/8, 10", x.ask(0, 0, 1), 1);
        x.thing(0, 5, 43);
        CHECKS.due("10, 10 5/8, 10 3/4", x.ask(0, 0, 1), 2);
        Checks.row(x, 2);
        CHECKS.due("5, 5 5/16, 5 3/8", x.ask(0, 0, 1), 2);
        x.thing(0, 0, 2);
        CHECKS.due("with a cost of 2: 6, 6 11/16, 7 1/8", x.ask(0, 0, 1), 2);
        x.thing(0, 0, 0);
        x.thing(0, 2, 90);
        CHECKS.due("what is left is worth less than nothing", x.ask(0, 0, 1), 0);
        CHECKS.due("no wants: all alike", x.ask(1, 0, 1), 0);
        x.thing(0, 2, 0);
        x.thing(0, 5, 40);
        x.thing(0, 4, 10);
        Checks.row(x, 3, 1);
        CHECKS.due("one left, a sure farm to come", x.ask(0, 0, 1), 2);
        CHECKS.due("four left: 5, 2 1/2, 5", x.ask(0, 0, 4), 0);
        CHECKS.due("the second farm", x.ask(0, 1, 1), 0);
    }

    private static void nothingShown() {
        PedlarPack x = new PedlarPack();
        Checks.thing(x, 2, 50, 1, 0, 10, 20, 30);
        Checks.wants(x, "1:2=16,16,16;2:2=0,0,0;3:2=16,8,0");
        Checks.row(x, 1, 2, 3);
        CHECKS.due("every price is below what is left", x.ask(2, 0, 4), 3);
        CHECKS.due("no wants: all alike", x.ask(2, 1, 4), 0);
        CHECKS.due("no wants at the highest: like nothing", x.ask(2, 2, 4), 2);
        x.thing(2, 0, 30);
        CHECKS.due("the highest is like nothing: the least", x.ask(2, 0, 1), 2);
        CHECKS.fraction("value of it", x.value(2, 0, 1, 0), x.value(2, 0, 1, 1), 30, 1);
        x.thing(2, 0, 31);
        CHECKS.due("one more", x.ask(2, 0, 1), 3);
        CHECKS.fraction("value of nothing shown", x.value(2, 0, 3, 0), x.value(2, 0, 3, 1), 93, 1);
    }

    private static void value() {
        PedlarPack x = new PedlarPack();
        Checks.thing(x, 1, 3, 1, 5, 8, 8, 20);
        Checks.wants(x, "1:1=12,12,4;2:1=8,8,4");
        Checks.row(x, 1, 2);
        CHECKS.fraction("behind all", x.value(1, 2, 4, 0), x.value(1, 2, 4, 1), -8, 1);
        CHECKS.fraction("none behind all", x.value(1, 2, 0, 0), x.value(1, 2, 0, 1), 0, 1);
        CHECKS.fraction("one at the last", x.value(1, 1, 1, 0), x.value(1, 1, 1, 1), 7, 2);
        CHECKS.fraction("two at the last", x.value(1, 1, 2, 0), x.value(1, 1, 2, 1), 3, 2);
        CHECKS.fraction("one at both", x.value(1, 0, 1, 0), x.value(1, 0, 1, 1), 61, 8);
        CHECKS.due("so ask high", x.ask(1, 0, 1), 2);
        CHECKS.fraction("two at both", x.value(1, 0, 2, 0), x.value(1, 0, 2, 1), 9, 1);
        CHECKS.due("and here less", x.ask(1, 0, 2), 0);
        CHECKS.fraction("none", x.value(1, 0, 0, 0), x.value(1, 0, 0, 1), 0, 1);
        x.shop(1, 4);
        CHECKS.fraction("with a shop", x.value(1, 1, 1, 0), x.value(1, 1, 1, 1), 1, 2);
    }

    private static void sevenFarms() {
        PedlarPack x = new PedlarPack();
        Checks.thing(x, 0, 0, 1, 0, 99, 99, 99);
        for (int farm = 1; farm <= 7; farm++) {
            Checks.wants(x, farm + ":0=1,1,1");
        }
        Checks.row(x, 1, 2, 3, 4, 5, 6, 7);
        CHECKS.fraction("99 with 1 less 15/16 to the seventh", x.value(0, 0, 1, 0), x.value(0, 0, 1, 1), 99L * (268435456 - 170859375), 268435456);
        CHECKS.fraction("from the sixth on", x.value(0, 5, 4, 0), x.value(0, 5, 4, 1), 99, 8);
    }

    private static void gain() {
        PedlarPack x = new PedlarPack();
        CHECKS.fraction("nothing", x.gain(0), x.gain(1), 0, 1);
        Checks.thing(x, 0, 5, 1, 3, 8, 8, 8);
        Checks.thing(x, 5, 1, 1, 0, 4, 4, 4);
        Checks.wants(x, "1:0=4,4,4;1:5=16,16,16");
        Checks.pack(x, 1, 0, 0, 0, 0, 2);
        CHECKS.fraction("at home", x.gain(0), x.gain(1), -3, 1);
        Checks.row(x, 1);
        CHECKS.fraction("at a farm", x.gain(0), x.gain(1), 3, 2);
        Checks.pack(x, 4, 4, 4, 4, 4, 4);
        CHECKS.fraction("too heavy, all the same: 19/2 less 20, and 7 less 4", x.gain(0), x.gain(1), -15, 2);
    }

    private static void bestAndLoaded() {
        PedlarPack x = new PedlarPack();
        Checks.thing(x, 0, 0, 11, 0, 24, 24, 24);
        Checks.thing(x, 1, 0, 10, 0, 20, 20, 20);
        Checks.wants(x, "1:0=16,16,16;1:1=16,16,16;2:1=16,16,16");
        Checks.row(x, 1, 2);
        CHECKS.due("best(0)", x.best(0), 0);
        CHECKS.due("best(1)", x.best(1), 2);
        CHECKS.due("best(NONE)", x.best(-1), 20);
        CHECKS.due("loaded(0)", x.loaded(0), 1);
        CHECKS.due("loaded(1)", x.loaded(1), 0);
        CHECKS.due("loaded(NONE)", x.loaded(-1), 11);
        CHECKS.fraction("load(0)", x.load(0, 0), x.load(0, 1), 40, 1);
        CHECKS.fraction("load(1)", x.load(1, 0), x.load(1, 1), 24, 1);
        CHECKS.fraction("load(2)", x.load(2, 0), x.load(2, 1), 42, 1);
        x.set(1, 10);
        CHECKS.due("loaded(0) too heavy", x.loaded(0), 0);
        CHECKS.due("loaded(1) fits", x.loaded(1), 1);
        x.set(1, 100);
        CHECKS.due("best with room: no more than is sold", x.best(0) * 10 + x.best(1), 12);
        CHECKS.due("loaded with room", x.loaded(0) * 10 + x.loaded(1), 12);
        CHECKS.due("other things stay", x.best(2) + x.best(5) + x.loaded(2) + x.loaded(5), 0);
        fourOfEach();
    }

    private static void fourOfEach() {
        PedlarPack x = new PedlarPack();
        for (int farm = 1; farm <= 5; farm++) {
            Checks.wants(x, farm + ":2=16,16,16;" + farm + ":4=16,16,16");
        }
        Checks.row(x, 1, 2, 3, 4, 5);
        CHECKS.due("four at most: best", x.best(2) * 10 + x.best(4), 44);
        CHECKS.due("four at most: loaded", x.loaded(2) * 10 + x.loaded(4), 44);
        CHECKS.fraction("what they bring", x.load(1, 0), x.load(1, 1), 24, 1);
        CHECKS.fraction("and no more is bound", x.load(2, 0), x.load(2, 1), 24, 1);
        x.set(1, 7);
        CHECKS.due("the least row has less of the first: best", x.best(2) * 10 + x.best(4), 34);
        CHECKS.due("of like ones the first: loaded", x.loaded(2) * 10 + x.loaded(4), 43);
    }

    private static void likeOnes() {
        PedlarPack x = new PedlarPack();
        Checks.thing(x, 0, 0, 2, 0, 6, 6, 6);
        Checks.thing(x, 1, 0, 1, 0, 3, 3, 3);
        Checks.thing(x, 2, 0, 1, 0, 6, 6, 6);
        Checks.wants(x, "1:0=16,16,16;1:1=16,16,16");
        Checks.row(x, 1);
        x.set(1, 1);
        CHECKS.due("room for one", x.best(0) * 10 + x.best(1), 1);
        x.set(1, 2);
        CHECKS.due("the most gain", x.best(0) * 10 + x.best(1), 10);
        CHECKS.due("of like ones by weight the least", x.loaded(0) * 10 + x.loaded(1), 10);
        Checks.wants(x, "1:2=16,16,16;1:0=16,16,16");
        x.set(1, 2);
        CHECKS.due("9 with 2", x.best(0) * 100 + x.best(1) * 10 + x.best(2), 11);
        Checks.wants(x, "1:1=0,0,0");
        CHECKS.due("6 and 6: the least in weight", x.best(0) * 100 + x.best(1) * 10 + x.best(2), 1);
        CHECKS.due("its weight", x.best(-1), 1);
        x.thing(2, 1, 2);
        CHECKS.due("of like weight the least row", x.best(0) * 100 + x.best(1) * 10 + x.best(2), 1);
        x.thing(0, 1, 1);
        CHECKS.due("the least in weight, though not the least row", x.best(0) * 100 + x.best(1) * 10 + x.best(2), 100);
        x.thing(0, 0, 6);
        CHECKS.due("what brings nothing isn't loaded", x.loaded(0), 0);
        x.set(1, 100);
        CHECKS.due("nor is it in the best pack", x.best(0), 0);
    }

    private static void bound() {
        PedlarPack x = new PedlarPack();
        Checks.thing(x, 0, 0, 7, 0, 10, 10, 10);
        Checks.thing(x, 1, 0, 3, 0, 5, 5, 5);
        Checks.wants(x, "1:0=16,16,16;1:1=8,8,8;2:1=8,8,8");
        Checks.row(x, 1, 2);
        x.set(1, 9);
        CHECKS.fraction("10, and 2/3 of 15/4", x.load(2, 0), x.load(2, 1), 25, 2);
        x.set(1, 8);
        CHECKS.fraction("10, and 1/3 of 15/4", x.load(2, 0), x.load(2, 1), 45, 4);
        x.set(1, 12);
        CHECKS.fraction("and 2/3 of the second, 5/4", x.load(2, 0), x.load(2, 1), 10 * 12 + 45 + 10, 12);
        x.set(1, 13);
        CHECKS.fraction("all", x.load(2, 0), x.load(2, 1), 15, 1);
        x.set(1, 100);
        CHECKS.fraction("no more", x.load(2, 0), x.load(2, 1), 15, 1);
        x.set(1, 5);
        CHECKS.fraction("a part of what is too heavy alone", x.load(2, 0), x.load(2, 1), 50, 7);
        x.thing(0, 2, 99);
        x.thing(1, 2, 99);
        CHECKS.fraction("a loss on what is left", x.load(2, 0), x.load(2, 1), 50, 7);
        Checks.row(x);
        CHECKS.fraction("no row", x.load(2, 0), x.load(2, 1), 0, 1);
    }

    private static void wrongNumbers() {
        PedlarPack x = new PedlarPack();
        Checks.row(x, 1, 2);
        int[][] asks = {{-1, 0, 1}, {6, 0, 1}, {0, -1, 1}, {0, 2, 1}, {0, 0, 0}, {0, 0, 5}};
        for (int[] a : asks) {
            CHECKS.due("ask(" + a[0] + ", " + a[1] + ", " + a[2] + ")", x.ask(a[0], a[1], a[2]), -2);
        }
        int[][] values = {{-1, 0, 1, 0}, {6, 0, 1, 0}, {0, -1, 1, 0}, {0, 3, 1, 0}, {0, 0, -1, 0}, {0, 0, 5, 0}, {0, 0, 0, -1}, {0, 0, 0, 2}};
        for (int[] a : values) {
            CHECKS.due("value() with " + a[0] + ", " + a[1] + ", " + a[2] + ", " + a[3], x.value(a[0], a[1], a[2], a[3]), Checks.LONG_BAD);
        }
        for (int v : new int[] {-1, 2}) {
            CHECKS.due("gain(" + v + ")", x.gain(v), Checks.LONG_BAD);
            CHECKS.due("load(0, " + v + ")", x.load(0, v), Checks.LONG_BAD);
        }
        CHECKS.due("load(-1, 0)", x.load(-1, 0), Checks.LONG_BAD);
        CHECKS.due("load(3, 0)", x.load(3, 0), Checks.LONG_BAD);
        CHECKS.due("best(6), loaded(6)", x.best(6) * 10 + x.loaded(6), -22);
        for (int wild : Checks.WILD) {
            CHECKS.due("ask(wild, ..)", x.ask(wild, 0, 1) + x.ask(0, wild, 1) + x.ask(0, 0, wild), -6);
            CHECKS.due("value(wild, ..)", x.value(wild, 0, 1, 0), Checks.LONG_BAD);
            CHECKS.due("value(0, wild, ..)", x.value(0, wild, 1, 0), Checks.LONG_BAD);
            CHECKS.due("value(0, 0, wild, 0)", x.value(0, 0, wild, 0), Checks.LONG_BAD);
            CHECKS.due("value(0, 0, 0, wild)", x.value(0, 0, 0, wild), Checks.LONG_BAD);
            CHECKS.due("gain(wild)", x.gain(wild), Checks.LONG_BAD);
            CHECKS.due("load(wild, 0)", x.load(wild, 0), Checks.LONG_BAD);
            CHECKS.due("load(0, wild)", x.load(0, wild), Checks.LONG_BAD);
            CHECKS.due("best(wild), loaded(wild)", x.best(wild) * 10 + x.loaded(wild), -22);
        }
        CHECKS.due("ask() at the last farm", x.ask(0, 1, 4), 0);
    }
}
