/** Promises 24 to 31. */
public final class RoundsTest {
    private static final Checks CHECKS = new Checks();

    public static void main(String[] args) {
        round();
        likeRounds();
        whatChangesRounds();
        onward();
        trust();
        two();
        bringsAndStraps();
        tooMany();
        wrongNumbers();
        CHECKS.end();
    }

    private static String roundOf(PedlarPack x) {
        StringBuilder text = new StringBuilder();
        int farms = x.round(-1);
        for (int i = 0; i < farms; i++) {
            text.append(x.round(i));
        }
        return text.toString();
    }

    private static void dueRound(String what, PedlarPack x, String farms, long above, long below) {
        CHECKS.due(what + ": is it " + farms + "? it is " + roundOf(x), roundOf(x).equals(farms) ? 1 : 0, 1);
        CHECKS.due(what + ": beyond it", x.round(farms.length()), -1);
        CHECKS.fraction(what + ": its gain", x.rounds(0), x.rounds(1), above, below);
    }

    /** Three FARMS along one road, each of which buys one of a THING for sure. */
    private static PedlarPack along() {
        PedlarPack x = new PedlarPack();
        x.set(2, 7);
        x.road(0, 1, 10);
        x.road(1, 2, 10);
        x.road(2, 3, 10);
        Checks.thing(x, 0, 0, 1, 0, 5, 5, 5);
        Checks.thing(x, 1, 0, 1, 0, 7, 7, 7);
        Checks.wants(x, "1:0=16,16,16;2:1=16,16,16;3:1=8,8,8");
        return x;
    }

    private static void round() {
        PedlarPack x = along();
        dueRound("all in time", x, "123", 31, 2);
        x.set(0, 59);
        dueRound("one too far", x, "12", 12, 1);
        x.set(0, 40);
        dueRound("just in time", x, "12", 12, 1);
        x.set(0, 39);
        dueRound("the near one", x, "1", 5, 1);
        x.set(0, 19);
        dueRound("none", x, "", 0, 1);
        x.set(0, 60);
        x.set(2, 5);
        dueRound("one is not open", x, "13", 17, 2);
        x.set(2, 4);
        dueRound("the last alone", x, "3", 7, 2);
        x.set(2, 0);
        dueRound("none is open", x, "", 0, 1);
        x.set(2, 7);
        x.set(1, 1);
        dueRound("room for one", x, "2", 7, 1);
        CHECKS.due("round() far beyond", x.round(Integer.MAX_VALUE), -1);
        x.set(2, 64);
        dueRound("a farm without a way", x, "", 0, 1);
    }

    private static void likeRounds() {
        PedlarPack x = new PedlarPack();
        x.set(2, 62);
        for (int a = 0; a < 8; a++) {
            for (int b = 0; b < a; b++) {
                x.road(a, b, 1);
            }
        }
        Checks.wants(x, "6:0=16,16,16;4:0=16,16,16;5:1=16,16,16");
        dueRound("of like ones the least row", x, "456", 9, 1);
        x.thing(1, 5, 3);
        x.set(1, 1);
        dueRound("of like ones the fewest farms", x, "4", 3, 1);
        x.set(1, 20);
        Checks.wants(x, "2:0=16,0,0;3:0=16,0,0");
        dueRound("the least row of all five", x, "23456", 3 + 3 + 1 + 1 + 2, 1);
    }

    private static void whatChangesRounds() {
        PedlarPack x = along();
        dueRound("ahead of it", x, "123", 31, 2);
        x.thing(0, 5, 6);
        CHECKS.due("by thing()", x.rounds(0), 33);
        x.shop(1, 8);
        CHECKS.due("by shop()", x.rounds(0), 19);
        CHECKS.due("now with two farms", x.round(-1), 2);
        x.road(1, 2, 60);
        CHECKS.due("by road()", x.round(-1), 1);
        x.road(1, 2, 10);
        x.road(0, 2, 1);
        CHECKS.due("by road() again", x.round(-1), 2);
        x.set(0, 21);
        CHECKS.due("by set(0)", x.round(0), 1);
        CHECKS.due("its gain", x.rounds(0), 19);
        Checks.wants(x, "2:1=12,0,0");
        CHECKS.due("by wants()", x.rounds(0), 31);
        Checks.lay(x, 0, 16, 0, 0, 16, 16, 16);
        x.read(0, 2);
        CHECKS.due("by read()", x.rounds(0), 29);
        x.set(2, 1);
        CHECKS.due("by set(2)", x.rounds(0), 6);
        x.set(2, 7);
        x.set(1, 1);
        CHECKS.due("by set(1)", x.rounds(0), 6);
        x.set(1, 20);
        x.onward(0, 0);
        CHECKS.due("not by onward()", x.rounds(0), 29);
        x.onward(3, 10);
        CHECKS.due("nor from a farm", x.rounds(0), 29);
        Checks.pack(x, 4, 4, 4, 4, 4, 4);
        x.onward(2, 0);
        CHECKS.due("nor with a pack, both asked ahead", x.rounds(0), 29);
        CHECKS.due("two() is of the same rows", x.both(0), 29);
        x.thing(0, 0, 3);
        CHECKS.due("both() by thing()", x.both(0), 17);
    }

    private static void onward() {
        PedlarPack x = along();
        CHECKS.due("nothing left", x.onward(0, 0), -1);
        Checks.pack(x, 1, 1, 0, 0, 0, 0);
        CHECKS.due("from home", x.onward(0, 0), 1);
        CHECKS.due("just in time for all", x.onward(1, 10), 2);
        CHECKS.due("in time for the near ones", x.onward(0, 20), 1);
        CHECKS.due("too late for any", x.onward(0, 41), -1);
        CHECKS.due("just for one", x.onward(0, 40), 1);
        CHECKS.due("too late for home", x.onward(3, 31), -1);
        CHECKS.due("just in time for home and on the way", x.onward(3, 30), 2);
        CHECKS.due("with the day gone", x.onward(0, 200), -1);
        CHECKS.due("back for the other", x.onward(2, 0), 1);
        Checks.pack(x, 0, 1, 0, 0, 0, 0);
        CHECKS.due("past one that wants none", x.onward(0, 0), 2);
        CHECKS.due("past the place itself", x.onward(2, 0), 3);
        CHECKS.due("the fewest farms", x.onward(1, 30), 2);
        x.set(2, 5);
        CHECKS.due("one isn't open", x.onward(1, 0), 3);
        CHECKS.due("from one that isn't open", x.onward(2, 0), 3);
        x.thing(1, 0, 8);
        CHECKS.due("better brought home", x.onward(0, 0), -1);
        x.thing(1, 2, 99);
        CHECKS.due("worth less than nothing at home", x.onward(0, 0), 3);
        Checks.pack(x, 4, 4, 4, 4, 4, 4);
        CHECKS.due("a pack that is too heavy", x.onward(0, 0), 1);
        CHECKS.due("a place without a way", x.onward(7, 0), -1);
    }

    private static void trust() {
        PedlarPack x = new PedlarPack();
        Checks.thing(x, 4, 3, 1, 0, 8, 12, 16);
        Checks.wants(x, "1:4=16,8,8;2:4=8,8,8");
        Checks.row(x, 1, 2);
        // From the second FARM on: 19/2 of one, 25/2 of two; from the first: of one 51/4, of two 19.
        CHECKS.due("one at the last, like", x.trust(4, 1, 1, 2, 9), 0);
        CHECKS.due("one at the last, more", x.trust(4, 1, 1, 2, 10), 1);
        CHECKS.due("9 1/2 against 9 1/2", x.trust(4, 1, 1, 0, 16), 0);
        CHECKS.due("12 against 9 1/2", x.trust(4, 1, 1, 1, 16), 1);
        CHECKS.due("one at the first, 13 against 51/4", x.trust(4, 0, 1, 2, 13), 1);
        CHECKS.due("one at the first, 12 against 51/4", x.trust(4, 0, 1, 2, 12), 0);
        CHECKS.due("two at the first, 19/2 and 9 against 19", x.trust(4, 0, 2, 2, 9), 0);
        CHECKS.due("two at the first, 19/2 and 10 against 19", x.trust(4, 0, 2, 2, 10), 1);
        CHECKS.due("no chance", x.trust(4, 0, 4, 2, 0), 0);
        CHECKS.due("four at the first, 8 and 31/2 against 25", x.trust(4, 0, 4, 0, 16), 0);
        Checks.thing(x, 0, 1, 1, 0, 8, 8, 8);
        Checks.wants(x, "1:0=16,16,16");
        CHECKS.due("both are alike", x.trust(0, 0, 1, 0, 16), 0);
        CHECKS.due("a little less", x.trust(0, 0, 1, 0, 15), 0);
        x.thing(0, 5, 9);
        CHECKS.due("at a higher price, alike again", x.trust(0, 0, 2, 2, 16), 0);
        x.thing(4, 2, 99);
        CHECKS.due("better sold for sure than lost", x.trust(4, 0, 4, 0, 0), 0);
        CHECKS.due("better lost than perhaps brought home", x.trust(4, 1, 4, 0, 0), 1);
        Checks.wants(x, "2:4=0,0,0");
        CHECKS.due("better lost than not sold", x.trust(4, 1, 4, 0, 0), 1);
    }

    private static void two() {
        PedlarPack x = along();
        x.set(1, 1);
        CHECKS.due("two(0)", x.two(0), 1);
        CHECKS.due("two(1), the least that brings as much", x.two(1), 2);
        CHECKS.fraction("both()", x.both(0), x.both(1), 12, 1);
        x.set(1, 20);
        CHECKS.due("one is enough: the least first set", x.two(0), 0);
        CHECKS.due("the other takes all", x.two(1), 7);
        CHECKS.fraction("both() like one", x.both(0), x.both(1), 31, 2);
        x.set(0, 20);
        CHECKS.due("one farm in time", x.two(0) * 10 + x.two(1), 1);
        x.set(0, 19);
        CHECKS.due("none in time", x.two(0) * 10 + x.two(1), 0);
        CHECKS.fraction("both() of none", x.both(0), x.both(1), 0, 1);
        PedlarPack y = new PedlarPack();
        y.set(2, 96);
        y.road(0, 6, 5);
        y.road(0, 7, 5);
        y.set(0, 10);
        Checks.wants(y, "6:0=16,16,16;7:0=8,8,8");
        CHECKS.due("one each", y.two(0) * 1000 + y.two(1), 32064);
        CHECKS.fraction("both() of one each", y.both(0), y.both(1), 9, 2);
        y.road(6, 7, 1);
        y.set(0, 11);
        CHECKS.due("one for both", y.two(0) * 1000 + y.two(1), 96);
        Checks.thing(y, 0, 1, 20, 0, 4, 4, 4);
        CHECKS.due("too heavy for one", y.two(0) * 1000 + y.two(1), 32064);
        CHECKS.due("left out what brings no more", y.both(0), 9);
        Checks.wants(y, "7:0=0,0,0");
        CHECKS.due("the least second set", y.two(0) * 1000 + y.two(1), 32);
    }

    private static void bringsAndStraps() {
        PedlarPack x = new PedlarPack();
        CHECKS.due("straps() of nothing", x.straps(), -1);
        Checks.thing(x, 0, 0, 4, 0, 12, 12, 12);
        Checks.thing(x, 1, 0, 3, 0, 8, 8, 8);
        Checks.thing(x, 2, 0, 3, 0, 7, 7, 7);
        Checks.wants(x, "1:0=16,16,16;1:1=16,16,16;1:2=16,16,16");
        Checks.row(x, 1);
        x.set(1, 7);
        CHECKS.due("the best pack", x.best(0) * 100 + x.best(1) * 10 + x.best(2), 110);
        CHECKS.fraction("brings(0)", x.brings(0, 0), x.brings(0, 1), 5, 1);
        CHECKS.fraction("brings(1): 7 comes in its stead", x.brings(1, 0), x.brings(1, 1), 1, 1);
        CHECKS.fraction("brings(2): not in it", x.brings(2, 0), x.brings(2, 1), 0, 1);
        CHECKS.due("straps(): 5 by 4, 1 by 3", x.straps(), 1);
        x.set(1, 10);
        CHECKS.due("straps(): 12 by 4, 8 by 3, 7 by 3", x.straps(), 2);
        x.thing(0, 5, 16);
        Checks.thing(x, 0, 0, 3, 0, 7, 7, 7);
        CHECKS.due("straps() of like ones the least", x.straps(), 0);
        PedlarPack y = new PedlarPack();
        Checks.thing(y, 3, 0, 1, 0, 4, 4, 4);
        Checks.thing(y, 4, 0, 3, 0, 9, 9, 9);
        Checks.wants(y, "1:3=16,16,16;2:3=16,0,0;1:4=16,16,16");
        Checks.row(y, 1, 2);
        CHECKS.due("all of it: 8 by 2, 9 by 3", y.straps(), 4);
        Checks.wants(y, "1:3=8,8,8;2:3=8,8,8");
        CHECKS.due("all of it: 4 by 2, 9 by 3", y.straps(), 3);
        CHECKS.fraction("brings() of two", y.brings(3, 0), y.brings(3, 1), 4, 1);
        Checks.wants(y, "1:4=0,0,0;1:3=16,16,16;2:3=0,0,0");
        CHECKS.due("one of weight 1", y.straps(), 3);
    }

    private static void tooMany() {
        PedlarPack x = new PedlarPack();
        for (int open : new int[] {127, 63, 126, 95}) {
            x.set(2, open);
            CHECKS.due("round() with " + open, x.round(-1), -4);
            CHECKS.due("rounds() with " + open, x.rounds(0), Checks.LONG_FULL);
            CHECKS.due("onward() with " + open, x.onward(0, 0), -4);
            CHECKS.due("onward() from one with " + open, x.onward(2, 0), -4);
            CHECKS.due("two() with " + open, x.two(0), -4);
            CHECKS.due("both() with " + open, x.both(0), Checks.LONG_FULL);
            CHECKS.due("BAD ahead of FULL", x.round(-2) + x.onward(8, 0) + x.two(2), -6);
            CHECKS.due("rounds(2) with " + open, x.rounds(2), Checks.LONG_BAD);
            CHECKS.due("both(2) with " + open, x.both(2), Checks.LONG_BAD);
        }
        for (int open : new int[] {31, 124, 87}) {
            x.set(2, open);
            CHECKS.due("round() with " + open, x.round(-1) + x.rounds(0) + x.two(0) + x.both(0), 0);
            CHECKS.due("onward() with " + open, x.onward(0, 0), -1);
        }
    }

    private static void wrongNumbers() {
        PedlarPack x = new PedlarPack();
        x.set(2, 3);
        Checks.row(x, 1);
        CHECKS.due("round(-2)", x.round(-2), -2);
        int[][] onwards = {{-1, 0}, {8, 0}, {0, -1}, {0, 201}};
        for (int[] a : onwards) {
            CHECKS.due("onward(" + a[0] + ", " + a[1] + ")", x.onward(a[0], a[1]), -2);
        }
        int[][] trusts = {{-1, 0, 1, 0, 0}, {6, 0, 1, 0, 0}, {0, -1, 1, 0, 0}, {0, 1, 1, 0, 0}, {0, 0, 0, 0, 0}, {0, 0, 5, 0, 0},
            {0, 0, 1, -1, 0}, {0, 0, 1, 3, 0}, {0, 0, 1, 0, -1}, {0, 0, 1, 0, 17}};
        for (int[] a : trusts) {
            CHECKS.due("trust() of " + java.util.Arrays.toString(a), x.trust(a[0], a[1], a[2], a[3], a[4]), -2);
        }
        for (int v : new int[] {-1, 2}) {
            CHECKS.due("two(" + v + ")", x.two(v), -2);
            CHECKS.due("rounds(" + v + ")", x.rounds(v), Checks.LONG_BAD);
            CHECKS.due("both(" + v + ")", x.both(v), Checks.LONG_BAD);
            CHECKS.due("brings(0, " + v + ")", x.brings(0, v), Checks.LONG_BAD);
        }
        CHECKS.due("brings(-1, 0)", x.brings(-1, 0), Checks.LONG_BAD);
        CHECKS.due("brings(6, 0)", x.brings(6, 0), Checks.LONG_BAD);
        for (int wild : Checks.WILD) {
            CHECKS.due("round(wild)", x.round(wild), wild < 0 ? -2 : -1);
            CHECKS.due("onward(wild, ..)", x.onward(wild, 0) + x.onward(0, wild), -4);
            CHECKS.due("two(wild)", x.two(wild), -2);
            CHECKS.due("brings(wild, 0)", x.brings(wild, 0), Checks.LONG_BAD);
            CHECKS.due("brings(0, wild)", x.brings(0, wild), Checks.LONG_BAD);
            CHECKS.due("rounds(wild)", x.rounds(wild), Checks.LONG_BAD);
            CHECKS.due("both(wild)", x.both(wild), Checks.LONG_BAD);
            CHECKS.due("trust(wild, ..)", x.trust(wild, 0, 1, 0, 0) + x.trust(0, wild, 1, 0, 0) + x.trust(0, 0, wild, 0, 0)
                    + x.trust(0, 0, 1, wild, 0) + x.trust(0, 0, 1, 0, wild), -10);
        }
    }
}
