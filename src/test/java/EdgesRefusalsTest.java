import java.util.function.ToLongFunction;

/** What the document says of all refusals: their order, that they change nothing, and how a long tells them. */
public final class EdgesRefusalsTest {
    private static final Edges EDGES = new Edges();
    private static final int FEW_OPEN = 31;
    private static final int ALL_OPEN = 127;
    private static final String GOOD_LINE = "3:1=9,8,7;4:2=16,5,0";
    private static final String BAD_LINE = "3:1=9,8,7;4:2=16,5,6";
    private static final String FULL_LINE = "1:0=9,8,7;1:1=9,8,7;1:2=9,8,7;1:3=16,8,7";
    // LOST, 8 bytes, 3 shorts, 6 ints.
    private static final int LOST = 0;
    private static final int BYTES = 1;
    private static final int SHORTS = 2;
    private static final int INTS = 3;

    public static void main(String[] args) {
        badChangesNothing();
        badOfALongChangesNothing();
        badOfSheetsChangesNothing();
        nullChangesNothing();
        notChangesNothing();
        fullChangesNothing();
        otherFindingsChangeNothing();
        firstThatFits();
        longs();
        EDGES.end(0, 0);
    }

    /** An object in which everything there is has been told. */
    private static PedlarPack told(int open, String line) {
        PedlarPack x = new PedlarPack();
        for (int thing = 0; thing < 6; thing++) {
            Checks.thing(x, thing, 3 + thing, 1 + thing, thing, 5 + thing, 9 + thing, 12 + 2 * thing);
            x.shop(thing, thing / 2);
        }
        x.road(0, 1, 4);
        x.road(1, 2, 3);
        x.road(2, 0, 6);
        x.road(2, 3, 5);
        x.road(5, 0, 9);
        Checks.wants(x, "1:0=16,9,4;2:0=12,8,3;3:4=15,15,9;5:5=14,9,9;2:3=16,16,2;1:1=11,7,6");
        Checks.row(x, 2, 1, 5);
        Checks.pack(x, 1, 2, 0, 3, 1, 1);
        x.set(0, 44);
        x.set(1, 33);
        x.set(2, open);
        x.lose(3);
        x.sheet(BYTES, 0, 8);
        x.sheet(SHORTS, 1, 3);
        x.sheet(INTS, 2, 6);
        for (int i = 0; i < 8; i++) {
            x.put(BYTES, 0, i, 10 + i);
            x.put(SHORTS, 1, i, 20 + i);
            x.put(INTS, 2, i, 30 + i);
        }
        // So that the latest FINDING is one that no refusal in this test makes by chance.
        x.sheet(LOST, 0, -1);
        Checks.type(x, line);
        return x;
    }

    /** All that can be asked of it, in parts: so no object is used for more calls than the document allows. */
    private static String partOf(int part, PedlarPack x) {
        StringBuilder text = new StringBuilder();
        if (part == 0) {
            text.append(x.digest()).append(' ').append(x.count(7)).append(' ').append(x.fault());
            x.set(2, FEW_OPEN);
            roundsOf(x, text);
        } else if (part == 1) {
            rowOf(x, text);
        } else if (part == 2) {
            roadsOf(x, text);
            sheetsOf(x, text);
        } else {
            chancesOf(x, text);
            text.append(" wants ").append(x.wants());
            chancesOf(x, text);
        }
        return text.toString();
    }

    private static void roundsOf(PedlarPack x, StringBuilder text) {
        for (int i = -1; i < 5; i++) {
            text.append(' ').append(x.round(i));
        }
        text.append(' ').append(x.rounds(0)).append(' ').append(x.two(0)).append(' ').append(x.two(1)).append(' ').append(x.both(0));
        for (int place = 0; place < 8; place++) {
            text.append(' ').append(x.onward(place, 5)).append(' ').append(x.onward(place, 25));
        }
    }

    private static void rowOf(PedlarPack x, StringBuilder text) {
        for (int thing = 0; thing < 6; thing++) {
            for (int k = 1; k <= 4; k++) {
                for (int i = 0; i <= 4; i++) {
                    text.append(' ').append(x.value(thing, i, k, 0)).append(' ').append(x.ask(thing, i, k));
                }
            }
            text.append(' ').append(x.brings(thing, 0)).append(' ').append(x.shop(thing, 0));
        }
    }

    private static void roadsOf(PedlarPack x, StringBuilder text) {
        for (int a = 0; a < 8; a++) {
            for (int b = 0; b < 8; b++) {
                text.append(' ').append(x.way(a, b));
            }
        }
        for (int a = 0; a < 8; a++) {
            for (int b = 0; b < a; b++) {
                text.append(' ').append(x.road(a, b, 0));
            }
        }
    }

    private static void sheetsOf(PedlarPack x, StringBuilder text) {
        for (int s = 0; s < 4; s++) {
            for (int form = 0; form < 3; form++) {
                for (int i = 0; i < 9; i++) {
                    text.append(' ').append(x.get(s, form, i));
                }
            }
            text.append(" lost ").append(x.lose(s));
        }
    }

    private static void chancesOf(PedlarPack x, StringBuilder text) {
        for (int farm = 1; farm <= 7; farm++) {
            for (int thing = 0; thing < 6; thing++) {
                for (int level = 0; level < 3; level++) {
                    text.append(' ').append(x.chance(farm, thing, level));
                }
            }
        }
    }

    /** The call is refused with this answer, and all is then as in an object where it was not made. */
    private static void refused(String call, long want, int open, String line, ToLongFunction<PedlarPack> act) {
        boolean finding = want <= Edges.NULL && want >= Edges.SIZE;
        refused(call, want, finding ? (int) (-10 - want) : 5, open, line, act);
    }

    private static void refused(String call, long want, int finding, int open, String line, ToLongFunction<PedlarPack> act) {
        for (int part = 0; part < 4; part++) {
            PedlarPack x = told(open, line);
            EDGES.due(call, act.applyAsLong(x), want);
            EDGES.due(call + ", count(8) then", x.count(8), finding);
            EDGES.due(call + ", changed something", partOf(part, x).equals(partOf(part, told(open, line))) ? 0 : 1, 0);
        }
    }

    private static void bad(String call, ToLongFunction<PedlarPack> act) {
        refused(call, Edges.BAD, FEW_OPEN, GOOD_LINE, act);
    }

    private static void badChangesNothing() {
        EDGES.sentence(0, "BAD -2 (a number not as told, no such thing)");
        bad("thing(6, 0, 1)", x -> x.thing(6, 0, 1));
        bad("thing(0, 6, 1)", x -> x.thing(0, 6, 1));
        bad("thing(0, 0, 100)", x -> x.thing(0, 0, 100));
        bad("thing(0, 1, 0)", x -> x.thing(0, 1, 0));
        bad("thing(0, 1, 21)", x -> x.thing(0, 1, 21));
        bad("thing(0, 2, -1)", x -> x.thing(0, 2, -1));
        bad("thing(0, 3, 10)", x -> x.thing(0, 3, 10));
        bad("thing(0, 4, 4)", x -> x.thing(0, 4, 4));
        bad("thing(0, 5, 8)", x -> x.thing(0, 5, 8));
        bad("road(0, 0, 1)", x -> x.road(0, 0, 1));
        bad("road(0, 8, 1)", x -> x.road(0, 8, 1));
        bad("road(0, 1, 61)", x -> x.road(0, 1, 61));
        bad("way(0, 8)", x -> x.way(0, 8));
        bad("set(0, 0)", x -> x.set(0, 0));
        bad("set(0, 201)", x -> x.set(0, 201));
        bad("set(1, 0)", x -> x.set(1, 0));
        bad("set(1, 101)", x -> x.set(1, 101));
        bad("set(2, 128)", x -> x.set(2, 128));
        bad("set(3, 1)", x -> x.set(3, 1));
        bad("type(256)", x -> x.type(256));
        bad("chance(0, 0, 0)", x -> x.chance(0, 0, 0));
        bad("shop(0, 17)", x -> x.shop(0, 17));
        bad("shop(6, 1)", x -> x.shop(6, 1));
        bad("ask(0, 3, 1)", x -> x.ask(0, 3, 1));
        bad("ask(0, 0, 5)", x -> x.ask(0, 0, 5));
        bad("best(6)", x -> x.best(6));
        bad("loaded(6)", x -> x.loaded(6));
        bad("round(-2)", x -> x.round(-2));
        bad("onward(8, 0)", x -> x.onward(8, 0));
        bad("onward(0, 201)", x -> x.onward(0, 201));
        bad("trust(0, 0, 5, 0, 0)", x -> x.trust(0, 0, 5, 0, 0));
        bad("two(2)", x -> x.two(2));
        bad("count(9)", x -> x.count(9));
    }

    private static void badOfALongChangesNothing() {
        EDGES.sentence(0, "no such thing), NULL, NOT -3 (as told), FULL -4, other FINDINGS. They change nothing");
        refused("sold(0, 5, 0, 0, 0)", Checks.LONG_BAD, FEW_OPEN, GOOD_LINE, x -> x.sold(0, 5, 0, 0, 0));
        refused("value(0, 4, 0, 0)", Checks.LONG_BAD, FEW_OPEN, GOOD_LINE, x -> x.value(0, 4, 0, 0));
        refused("gain(2)", Checks.LONG_BAD, FEW_OPEN, GOOD_LINE, x -> x.gain(2));
        refused("load(3, 0)", Checks.LONG_BAD, FEW_OPEN, GOOD_LINE, x -> x.load(3, 0));
        refused("rounds(2)", Checks.LONG_BAD, FEW_OPEN, GOOD_LINE, x -> x.rounds(2));
        refused("both(2)", Checks.LONG_BAD, FEW_OPEN, GOOD_LINE, x -> x.both(2));
        refused("brings(6, 0)", Checks.LONG_BAD, FEW_OPEN, GOOD_LINE, x -> x.brings(6, 0));
    }

    private static void badOfSheetsChangesNothing() {
        EDGES.sentence(0, "BAD -2 (a number not as told, no such thing), NULL");
        bad("read(4, 1)", x -> x.read(4, 1));
        bad("read(INTS, 8)", x -> x.read(INTS, 8));
        bad("row(4)", x -> x.row(4));
        bad("pack(-1)", x -> x.pack(-1));
        bad("sheet(4, 0, 1)", x -> x.sheet(4, 0, 1));
        bad("sheet(INTS, 3, 1)", x -> x.sheet(INTS, 3, 1));
        bad("sheet(INTS, 0, 41)", x -> x.sheet(INTS, 0, 41));
        bad("sheet(LOST, 0, 41)", x -> x.sheet(LOST, 0, 41));
        bad("lose(4)", x -> x.lose(4));
        bad("put(4, 0, 0, 1)", x -> x.put(4, 0, 0, 1));
        bad("put(INTS, 3, 0, 1)", x -> x.put(INTS, 3, 0, 1));
        bad("copy(INTS, 0, 4, 0, 1)", x -> x.copy(INTS, 0, 4, 0, 1));
        bad("copy(4, 0, INTS, 0, 1)", x -> x.copy(4, 0, INTS, 0, 1));
        bad("write(4)", x -> x.write(4));
        refused("get(4, 0, 0)", Edges.LEAST, FEW_OPEN, GOOD_LINE, x -> x.get(4, 0, 0));
        refused("get(INTS, 3, 0)", Edges.LEAST, FEW_OPEN, GOOD_LINE, x -> x.get(INTS, 3, 0));
    }

    private static void finding(String call, int want, ToLongFunction<PedlarPack> act) {
        refused(call, want, FEW_OPEN, GOOD_LINE, act);
    }

    private static void nullChangesNothing() {
        EDGES.sentence(0, "NULL, NOT -3 (as told)");
        finding("read(LOST, 1)", Edges.NULL, x -> x.read(LOST, 1));
        finding("row(LOST)", Edges.NULL, x -> x.row(LOST));
        finding("pack(LOST)", Edges.NULL, x -> x.pack(LOST));
        finding("lose(LOST)", Edges.NULL, x -> x.lose(LOST));
        finding("put(LOST, 0, 0, 1)", Edges.NULL, x -> x.put(LOST, 0, 0, 1));
        finding("copy(LOST, 0, INTS, 0, 1)", Edges.NULL, x -> x.copy(LOST, 0, INTS, 0, 1));
        finding("copy(INTS, 0, LOST, 0, 1)", Edges.NULL, x -> x.copy(INTS, 0, LOST, 0, 1));
        finding("write(LOST)", Edges.NULL, x -> x.write(LOST));
    }

    private static void notChangesNothing() {
        EDGES.sentence(0, "NOT -3 (as told)");
        refused("wants() of an empty LINE", Edges.NOT, FEW_OPEN, "", x -> x.wants());
        refused("wants() with a good part ahead of the FAULT", Edges.NOT, FEW_OPEN, BAD_LINE, x -> x.wants());
        finding("row(INTS) of 30 to 35", Edges.NOT, x -> x.row(INTS));
        finding("pack(INTS) of 30 to 35", Edges.NOT, x -> x.pack(INTS));
    }

    private static void fullChangesNothing() {
        EDGES.sentence(0, "FULL -4, other FINDINGS");
        refused("type(59) behind forty", Edges.FULL, FEW_OPEN, FULL_LINE, x -> x.type(';'));
        refused("round(-1)", Edges.FULL, ALL_OPEN, GOOD_LINE, x -> x.round(-1));
        refused("rounds(0)", Checks.LONG_FULL, ALL_OPEN, GOOD_LINE, x -> x.rounds(0));
        refused("onward(0, 0)", Edges.FULL, ALL_OPEN, GOOD_LINE, x -> x.onward(0, 0));
        refused("two(0)", Edges.FULL, ALL_OPEN, GOOD_LINE, x -> x.two(0));
        refused("both(0)", Checks.LONG_FULL, ALL_OPEN, GOOD_LINE, x -> x.both(0));
    }

    private static void otherFindingsChangeNothing() {
        EDGES.sentence(0, "They change nothing (FINDINGS but count() 8).");
        finding("pack(SHORTS) of three", Edges.INDEX, x -> x.pack(SHORTS));
        finding("put(BYTES, 0, 8, 1)", Edges.INDEX, x -> x.put(BYTES, 0, 8, 1));
        finding("put(BYTES, 0, -1, 1)", Edges.INDEX, x -> x.put(BYTES, 0, -1, 1));
        finding("put(BYTES, 1, 0, 1)", Edges.CAST, x -> x.put(BYTES, 1, 0, 1));
        finding("copy(BYTES, 0, INTS, 0, 1)", Edges.STORE, x -> x.copy(BYTES, 0, INTS, 0, 1));
        finding("copy(INTS, 1, INTS, 0, 6)", Edges.INDEX, x -> x.copy(INTS, 1, INTS, 0, 6));
        finding("copy(INTS, 0, INTS, 1, 6)", Edges.INDEX, x -> x.copy(INTS, 0, INTS, 1, 6));
        finding("sheet(INTS, 0, -1)", Edges.SIZE, x -> x.sheet(INTS, 0, -1));
        finding("sheet(LOST, 0, -1)", Edges.SIZE, x -> x.sheet(LOST, 0, -1));
        int[][] gets = {{LOST, 0, 0, 1}, {BYTES, 2, 0, 3}, {BYTES, 0, 8, 2}, {INTS, 2, -1, 2}};
        for (int[] a : gets) {
            refused("get(" + a[0] + ", " + a[1] + ", " + a[2] + ")", Edges.LEAST, a[3], FEW_OPEN, GOOD_LINE, x -> x.get(a[0], a[1], a[2]));
        }
    }

    private static void firstThatFits() {
        EDGES.sentence(0, "Refusals, the first that fits, in the order told at each act");
        PedlarPack x = told(ALL_OPEN, FULL_LINE);
        EDGES.all("BAD ahead of NULL", Edges.BAD, x.read(LOST, 0), x.put(LOST, 3, 0, 0), x.copy(LOST, 0, 4, 0, 0), x.copy(4, 0, LOST, 0, 0));
        EDGES.all("BAD ahead of FULL", Edges.BAD, x.type(256), x.round(-2), x.onward(8, 0), x.onward(0, 201), x.two(2));
        EDGES.all("BAD ahead of FULL, as longs", Checks.LONG_BAD, x.rounds(2), x.both(-1));
        EDGES.all("BAD ahead of SIZE", Edges.BAD, x.sheet(4, 0, -1), x.sheet(0, 3, -1));
        EDGES.all("BAD ahead of CAST, INDEX", Edges.BAD, x.put(BYTES, 3, 99, 0), x.copy(BYTES, -1, 4, 0, 0));
        EDGES.all("NULL ahead of CAST, STORE, INDEX", Edges.NULL, x.put(LOST, 1, -1, 0), x.copy(LOST, -1, INTS, 0, 0), x.copy(SHORTS, 9, LOST, 0, 0));
        EDGES.due("INDEX ahead of NOT", x.pack(SHORTS), Edges.INDEX);
        EDGES.all("CAST ahead of INDEX", Edges.CAST, x.put(BYTES, 1, 8, 0), x.put(BYTES, 2, -1, 0));
        EDGES.all("STORE ahead of INDEX", Edges.STORE, x.copy(BYTES, 9, SHORTS, 0, 0), x.copy(BYTES, 0, SHORTS, 0, -1));
        x.get(LOST, 2, 99);
        EDGES.due("get(): NULL ahead of CAST, INDEX", x.count(8), 1);
        x.get(BYTES, 2, 99);
        EDGES.due("get(): CAST ahead of INDEX", x.count(8), 3);
    }

    private static void longs() {
        EDGES.sentence(0, "Where the answer is a long, a refusal -x is the least long and x more.");
        PedlarPack x = told(ALL_OPEN, GOOD_LINE);
        EDGES.all("BAD", -9223372036854775806L, x.sold(6, 0, 0, 0, 0), x.value(6, 0, 0, 0), x.gain(2), x.load(3, 0), x.rounds(2), x.both(2), x.brings(6, 0));
        EDGES.all("FULL", -9223372036854775804L, x.rounds(0), x.rounds(1), x.both(0), x.both(1));
    }
}
