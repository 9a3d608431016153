/** Boundary cases of rows and packs: promises 13 to 17 and what the terms say of them. */
public final class EdgesRowsPacksTest {
    private static final Edges EDGES = new Edges();

    public static void main(String[] args) {
        fractions();
        eachFarmOnce();
        packHas0To4OfEach();
        judgedCanBe();
        judgedHeavier();
        judgedTooLong();
        judgedTheFirst();
        soldOfNone();
        soldAtOneLevel();
        rowAsManyAsItems();
        rowBad();
        rowNull();
        rowNoFarms();
        rowOneTwice();
        rowIsKept();
        packFirstSix();
        packBad();
        packNull();
        packIndex();
        packNot();
        packTellsItsWeight();
        judgedAnswers();
        hoursFromHomeToHome();
        hoursWithoutAWay();
        soldJust();
        soldMean();
        soldTerms();
        soldBad();
        soldRefusal();
        EDGES.end(13, 17);
    }

    private static PedlarPack with(String wants, int... row) {
        PedlarPack x = new PedlarPack();
        Checks.wants(x, wants);
        Checks.row(x, row);
        return x;
    }

    private static void fractions() {
        EDGES.sentence(0, "FRACTIONS are told in lowest terms, above and below (0 by 1).");
        PedlarPack x = with("1:0=16,8,5;1:1=12,2,0", 1);
        EDGES.fraction("16 by 16", x.sold(0, 1, 0, 1, 0), x.sold(0, 1, 0, 1, 1), 1, 1);
        EDGES.fraction("8 by 16", x.sold(0, 1, 1, 1, 0), x.sold(0, 1, 1, 1, 1), 1, 2);
        EDGES.fraction("5 by 16", x.sold(0, 1, 2, 1, 0), x.sold(0, 1, 2, 1, 1), 5, 16);
        EDGES.fraction("12 by 16", x.sold(1, 1, 0, 1, 0), x.sold(1, 1, 0, 1, 1), 3, 4);
        EDGES.fraction("0 by 16", x.sold(1, 1, 2, 1, 0), x.sold(1, 1, 2, 1, 1), 0, 1);
        x.thing(1, 2, 3);
        EDGES.fraction("below 0: 2 or -2", x.value(1, 0, 1, 0), x.value(1, 0, 1, 1), 1, 1);
        x.thing(1, 2, 99);
        EDGES.fraction("below 0: 2 or -98", x.value(1, 0, 1, 0), x.value(1, 0, 1, 1), -23, 1);
        x.thing(1, 2, 98);
        EDGES.fraction("below 0: 12 by 2, 4 by -97", x.value(1, 0, 1, 0), x.value(1, 0, 1, 1), -91, 4);
    }

    private static void eachFarmOnce() {
        EDGES.sentence(0, "A ROW are FARMS, one after the other, each once;");
        PedlarPack x = new PedlarPack();
        EDGES.due("all of them", Checks.row(x, 3, 1, 7, 2, 6, 5, 4), 7);
        EDGES.due("none", Checks.row(x), 0);
        for (int farm = 1; farm <= 7; farm++) {
            EDGES.due("one", Checks.row(x, farm), 1);
            EDGES.due("one twice", Checks.row(x, farm, farm), Edges.NOT);
            EDGES.due("one twice, with another between", Checks.row(x, farm, farm % 7 + 1, farm), Edges.NOT);
        }
    }

    private static void packHas0To4OfEach() {
        EDGES.sentence(0, "a PACK are numbers of THINGS (0 to 4 each)");
        PedlarPack x = new PedlarPack();
        for (int thing = 0; thing < 6; thing++) {
            int[] numbers = new int[6];
            numbers[thing] = 4;
            EDGES.due("four", Checks.pack(x, numbers), 4);
            numbers[thing] = 5;
            EDGES.due("five", Checks.pack(x, numbers), Edges.NOT);
            numbers[thing] = -1;
            EDGES.due("fewer than none", Checks.pack(x, numbers), Edges.NOT);
        }
        EDGES.due("four of each", Checks.pack(x, 4, 4, 4, 4, 4, 4), 24);
        EDGES.due("none", Checks.pack(x, 0, 0, 0, 0, 0, 0), 0);
    }

    private static void judgedCanBe() {
        EDGES.sentence(0, "JUDGED: 0 it can be;");
        PedlarPack x = new PedlarPack();
        EDGES.due("nothing to nowhere", x.judged(), 0);
        x.set(0, 1);
        x.set(1, 1);
        EDGES.due("in the shortest DAY", x.judged(), 0);
    }

    private static void judgedHeavier() {
        EDGES.sentence(0, "1 the PACK is heavier than its LIMIT;");
        PedlarPack x = new PedlarPack();
        Checks.pack(x, 4, 4, 4, 4, 3, 0);
        EDGES.due("19 of 20", x.judged(), 0);
        Checks.pack(x, 4, 4, 4, 4, 4, 0);
        EDGES.due("20 of 20", x.judged(), 0);
        Checks.pack(x, 4, 4, 4, 4, 4, 1);
        EDGES.due("21 of 20", x.judged(), 1);
        x.set(1, 21);
        EDGES.due("21 of 21", x.judged(), 0);
        x.thing(0, 1, 2);
        EDGES.due("25 of 21", x.judged(), 1);
    }

    private static void judgedTooLong() {
        EDGES.sentence(0, "2 the WAYS from HOME along the ROW and HOME again take more HOURS than the DAY has");
        PedlarPack x = new PedlarPack();
        x.road(0, 1, 30);
        Checks.row(x, 1);
        EDGES.due("60 of 60", x.judged(), 0);
        x.set(0, 59);
        EDGES.due("60 of 59", x.judged(), 2);
        x.set(0, 61);
        EDGES.due("60 of 61", x.judged(), 0);
        x.set(0, 200);
        Checks.row(x, 2);
        EDGES.due("no WAY", x.judged(), 2);
        Checks.row(x);
        EDGES.due("no ROW", x.judged(), 0);
    }

    private static void judgedTheFirst() {
        EDGES.sentence(0, "(the first that is so)");
        PedlarPack x = new PedlarPack();
        Checks.pack(x, 4, 4, 4, 4, 4, 4);
        Checks.row(x, 1);
        EDGES.due("too heavy and without a WAY", x.judged(), 1);
        x.set(1, 24);
        EDGES.due("without a WAY", x.judged(), 2);
    }

    private static void soldOfNone() {
        EDGES.sentence(0, "k (0 to 4) in the PACK");
        PedlarPack x = with("1:0=16,8,4;2:0=16,8,4;3:0=16,8,4;4:0=16,8,4", 1, 2, 3, 4);
        EDGES.all("too small, too large", Checks.LONG_BAD, x.sold(0, -1, 0, 0, 0), x.sold(0, 5, 0, 0, 0));
        EDGES.fraction("none of none", x.sold(0, 0, 0, 0, 0), x.sold(0, 0, 0, 0, 1), 1, 1);
        EDGES.fraction("one of none", x.sold(0, 0, 0, 1, 0), x.sold(0, 0, 0, 1, 1), 0, 1);
        EDGES.fraction("four of four", x.sold(0, 4, 0, 4, 0), x.sold(0, 4, 0, 4, 1), 1, 1);
        EDGES.fraction("three of three at four FARMS", x.sold(0, 3, 0, 3, 0), x.sold(0, 3, 0, 3, 1), 1, 1);
        Checks.pack(x, 0, 0, 0, 0, 0, 0);
        EDGES.fraction("whatever the PACK has", x.sold(0, 4, 0, 4, 0), x.sold(0, 4, 0, 4, 1), 1, 1);
    }

    private static void soldAtOneLevel() {
        EDGES.sentence(0, "always asked at one LEVEL");
        PedlarPack x = with("1:0=16,8,4;2:0=16,8,0", 1, 2);
        EDGES.all("no such LEVEL", Checks.LONG_BAD, x.sold(0, 1, -1, 0, 0), x.sold(0, 1, 3, 0, 0));
        EDGES.fraction("LEVEL 0", x.sold(0, 2, 0, 2, 0), x.sold(0, 2, 0, 2, 1), 1, 1);
        EDGES.fraction("LEVEL 1", x.sold(0, 2, 1, 2, 0), x.sold(0, 2, 1, 2, 1), 1, 4);
        EDGES.fraction("LEVEL 2", x.sold(0, 2, 2, 2, 0), x.sold(0, 2, 2, 2, 1), 0, 1);
    }

    private static void rowAsManyAsItems() {
        EDGES.sentence(13, "FARMS, as many as there are items (7 at most); how many.");
        int[] farms = {7, 6, 5, 4, 3, 2, 1};
        PedlarPack x = new PedlarPack();
        for (int size = 0; size <= 7; size++) {
            EDGES.due(size + " items", Checks.row(x, java.util.Arrays.copyOf(farms, size)), size);
            EDGES.due("count(0) of " + size, x.count(0), size);
        }
        EDGES.due("eight: one is there twice", Checks.row(x, 7, 6, 5, 4, 3, 2, 1, 1), Edges.NOT);
        EDGES.due("eight: one is no FARM", Checks.row(x, 7, 6, 5, 4, 3, 2, 1, 0), Edges.NOT);
        EDGES.due("forty", Checks.row(x, java.util.Arrays.copyOf(farms, 40)), Edges.NOT);
        EDGES.due("the ROW stays", x.count(0), 7);
    }

    private static void rowBad() {
        EDGES.sentence(13, "BAD; NULL; NOT");
        PedlarPack x = new PedlarPack();
        EDGES.all("no such SHEET", Edges.BAD, x.row(-1), x.row(4), x.row(Edges.LEAST), x.row(Edges.MOST));
        EDGES.due("BAD is no FINDING", x.count(8), 0);
    }

    private static void rowNull() {
        EDGES.sentence(13, "NULL; NOT");
        PedlarPack x = new PedlarPack();
        Checks.row(x, 1, 2);
        x.lose(3);
        for (int s = 0; s < 4; s++) {
            EDGES.due("a LOST SHEET", x.row(s), Edges.NULL);
        }
        EDGES.due("the FINDING", x.count(8), 1);
        EDGES.due("the ROW stays", x.count(0), 2);
    }

    private static void rowNoFarms() {
        EDGES.sentence(13, "NOT: items that are no FARMS");
        PedlarPack x = new PedlarPack();
        Checks.row(x, 1, 2);
        for (int none : new int[] {0, 8, -1, -7, 33, 65, 256 + 3, Edges.LEAST, Edges.MOST}) {
            EDGES.due(none + " alone", Checks.row(x, none), Edges.NOT);
            EDGES.due(none + " first", Checks.row(x, none, 1), Edges.NOT);
            EDGES.due(none + " last", Checks.row(x, 1, 2, 3, 4, 5, 6, none), Edges.NOT);
        }
        EDGES.due("NOT is no FINDING", x.count(8), 0);
        EDGES.due("the ROW stays", x.count(0), 2);
        x.sheet(0, 0, 1);
        x.put(0, 0, 0, 256 + 3);
        EDGES.due("of bytes 259 is 3", x.row(0), 1);
    }

    private static void rowOneTwice() {
        EDGES.sentence(13, "one twice.");
        PedlarPack x = new PedlarPack();
        Checks.row(x, 5);
        EDGES.due("at once", Checks.row(x, 1, 1), Edges.NOT);
        EDGES.due("the first and the last", Checks.row(x, 7, 2, 3, 4, 5, 6, 7), Edges.NOT);
        EDGES.due("the last two", Checks.row(x, 1, 2, 3, 4, 5, 6, 6), Edges.NOT);
        EDGES.due("the ROW stays", x.count(0), 1);
    }

    private static void rowIsKept() {
        EDGES.sentence(13, "The ROW is what a SHEET tells");
        PedlarPack x = new PedlarPack();
        x.road(0, 1, 5);
        x.road(0, 2, 9);
        Checks.row(x, 1);
        x.put(3, 2, 0, 2);
        EDGES.due("the SHEET changed then", x.hours(), 10);
        x.lose(3);
        EDGES.due("the SHEET lost then", x.hours(), 10);
        for (int form = 0; form < 3; form++) {
            x.sheet(0, form, 1);
            x.put(0, form, 0, 2);
            EDGES.due("of any FORM", x.row(0), 1);
            EDGES.due("its HOURS", x.hours(), 18);
            Checks.row(x);
        }
    }

    private static void packFirstSix() {
        EDGES.sentence(14, "its first six items, 0 to 4 each");
        PedlarPack x = new PedlarPack();
        EDGES.due("just six", Checks.pack(x, 4, 3, 2, 1, 0, 4), 14);
        EDGES.due("those behind may be anything", Checks.pack(x, 1, 0, 0, 0, 0, 1, 5, -1, Edges.LEAST), 2);
        EDGES.due("forty", Checks.pack(x, java.util.Arrays.copyOf(new int[] {1, 1, 1, 1, 1, 1, 1}, 40)), 6);
        x.sheet(0, 0, 6);
        x.put(0, 0, 0, 256 + 4);
        EDGES.due("of bytes 260 is 4", x.pack(0), 4);
        x.put(0, 0, 0, 255);
        EDGES.due("of bytes 255 is -1", x.pack(0), Edges.NOT);
    }

    private static void packBad() {
        EDGES.sentence(14, "BAD; NULL; INDEX");
        PedlarPack x = new PedlarPack();
        EDGES.all("no such SHEET", Edges.BAD, x.pack(-1), x.pack(4), x.pack(Edges.LEAST), x.pack(Edges.MOST));
        EDGES.due("BAD is no FINDING", x.count(8), 0);
    }

    private static void packNull() {
        EDGES.sentence(14, "NULL; INDEX");
        PedlarPack x = new PedlarPack();
        Checks.pack(x, 1, 1, 0, 0, 0, 0);
        x.lose(3);
        for (int s = 0; s < 4; s++) {
            EDGES.due("a LOST SHEET", x.pack(s), Edges.NULL);
        }
        EDGES.due("the FINDING", x.count(8), 1);
        EDGES.due("the PACK stays", x.count(1), 2);
    }

    private static void packIndex() {
        EDGES.sentence(14, "INDEX: fewer items; NOT");
        PedlarPack x = new PedlarPack();
        Checks.pack(x, 1, 1, 0, 0, 0, 0);
        for (int size = 0; size < 6; size++) {
            EDGES.due(size + " items", Checks.pack(x, new int[size]), Edges.INDEX);
        }
        EDGES.due("the FINDING", x.count(8), 2);
        EDGES.due("INDEX is told ahead of NOT", Checks.pack(x, 5, 5), Edges.INDEX);
        EDGES.due("the PACK stays", x.count(1), 2);
    }

    private static void packNot() {
        EDGES.sentence(14, "NOT: one is not 0 to 4.");
        PedlarPack x = new PedlarPack();
        Checks.pack(x, 1, 1, 0, 0, 0, 0);
        for (int wrong : new int[] {-1, 5, 256, Edges.LEAST, Edges.MOST}) {
            for (int thing = 0; thing < 6; thing++) {
                int[] numbers = {2, 2, 2, 2, 2, 2};
                numbers[thing] = wrong;
                EDGES.due(wrong + " of " + thing, Checks.pack(x, numbers), Edges.NOT);
            }
        }
        EDGES.due("the PACK stays", x.count(1), 2);
        EDGES.due("NOT is no FINDING", x.count(8), 0);
    }

    private static void packTellsItsWeight() {
        EDGES.sentence(14, "its weight.");
        PedlarPack x = new PedlarPack();
        for (int thing = 0; thing < 6; thing++) {
            x.thing(thing, 1, 20);
        }
        EDGES.due("the most there can be, beyond every LIMIT", Checks.pack(x, 4, 4, 4, 4, 4, 4), 480);
        EDGES.due("nothing", Checks.pack(x, 0, 0, 0, 0, 0, 0), 0);
    }

    private static void judgedAnswers() {
        EDGES.sentence(15, "JUDGED: 0, 1, 2.");
        PedlarPack x = new PedlarPack();
        x.road(0, 1, 60);
        x.set(0, 120);
        x.set(1, 4);
        Checks.row(x, 1);
        Checks.pack(x, 4, 0, 0, 0, 0, 0);
        EDGES.due("just as heavy and as long as may be", x.judged(), 0);
        x.set(0, 119);
        EDGES.due("an hour too long", x.judged(), 2);
        x.set(1, 3);
        EDGES.due("and too heavy", x.judged(), 1);
        x.set(0, 120);
        EDGES.due("too heavy alone", x.judged(), 1);
    }

    private static void hoursFromHomeToHome() {
        EDGES.sentence(16, "HOURS of the ROW from HOME to HOME");
        PedlarPack x = new PedlarPack();
        EDGES.due("no ROW", x.hours(), 0);
        for (int farm = 1; farm <= 7; farm++) {
            x.road(farm - 1, farm, 60);
        }
        Checks.row(x, 1);
        EDGES.due("one FARM, there and back", x.hours(), 120);
        Checks.row(x, 1, 2, 3, 4, 5, 6, 7);
        EDGES.due("all, and back", x.hours(), 840);
        Checks.row(x, 7, 1, 6, 2, 5, 3, 4);
        EDGES.due("to and fro", x.hours(), 420 + 360 + 300 + 240 + 180 + 120 + 60 + 240);
    }

    private static void hoursWithoutAWay() {
        EDGES.sentence(16, "(1000 and more: some WAY is none)");
        PedlarPack x = new PedlarPack();
        Checks.row(x, 1);
        EDGES.due("neither there nor back", x.hours(), 2000);
        x.road(1, 2, 7);
        Checks.row(x, 1, 2);
        EDGES.due("a WAY between them", x.hours(), 2007);
        x.road(0, 2, 3);
        Checks.row(x, 1, 2, 3);
        EDGES.due("10, 7, none, none", x.hours(), 2017);
        Checks.row(x, 7, 6, 5, 4, 3);
        EDGES.due("no WAY at all", x.hours(), 6000);
    }

    private static void soldJust() {
        EDGES.sentence(17, "that just j (0 to 4) are");
        PedlarPack x = with("1:0=16,8,4;2:0=16,8,4;3:0=16,8,4;4:0=16,8,4", 1, 2, 3, 4);
        int[] ways = {1, 4, 6, 4, 1};
        for (int j = 0; j <= 4; j++) {
            EDGES.due("just " + j + " of four halves", x.sold(0, 4, 1, j, 0) * 16 / x.sold(0, 4, 1, j, 1), ways[j]);
        }
        EDGES.fraction("none", x.sold(0, 4, 1, 0, 0), x.sold(0, 4, 1, 0, 1), 1, 16);
        EDGES.fraction("more than there are", x.sold(0, 3, 1, 4, 0), x.sold(0, 3, 1, 4, 1), 0, 1);
        EDGES.fraction("all three, at three FARMS or at four", x.sold(0, 3, 1, 3, 0), x.sold(0, 3, 1, 3, 1), 5, 16);
        EDGES.all("too small, too large", Checks.LONG_BAD, x.sold(0, 4, 1, -2, 0), x.sold(0, 4, 1, 5, 0));
        Checks.row(x);
        EDGES.fraction("along no ROW none", x.sold(0, 4, 1, 0, 0), x.sold(0, 4, 1, 0, 1), 1, 1);
        EDGES.fraction("along no ROW one", x.sold(0, 4, 1, 1, 0), x.sold(0, 4, 1, 1, 1), 0, 1);
    }

    private static void soldMean() {
        EDGES.sentence(17, "the mean (j = NONE)");
        PedlarPack x = with("1:0=16,8,4;2:0=16,8,4", 1, 2);
        EDGES.fraction("none in the PACK", x.sold(0, 0, 0, -1, 0), x.sold(0, 0, 0, -1, 1), 0, 1);
        EDGES.fraction("more than FARMS", x.sold(0, 4, 0, -1, 0), x.sold(0, 4, 0, -1, 1), 2, 1);
        EDGES.fraction("fewer than FARMS", x.sold(0, 1, 0, -1, 0), x.sold(0, 1, 0, -1, 1), 1, 1);
        EDGES.fraction("one, two halves", x.sold(0, 1, 1, -1, 0), x.sold(0, 1, 1, -1, 1), 3, 4);
        EDGES.fraction("two, two quarters", x.sold(0, 2, 2, -1, 0), x.sold(0, 2, 2, -1, 1), 1, 2);
        Checks.row(x);
        EDGES.fraction("no ROW", x.sold(0, 4, 0, -1, 0), x.sold(0, 4, 0, -1, 1), 0, 1);
    }

    private static void soldTerms() {
        EDGES.sentence(17, "above, below.");
        PedlarPack x = new PedlarPack();
        for (int farm = 1; farm <= 7; farm++) {
            Checks.wants(x, farm + ":5=15,1,0");
        }
        Checks.row(x, 1, 2, 3, 4, 5, 6, 7);
        EDGES.fraction("16 to the seventh below", x.sold(5, 4, 0, 0, 0), x.sold(5, 4, 0, 0, 1), 1, 268435456);
        EDGES.fraction("15 to the seventh above", x.sold(5, 4, 1, 0, 0), x.sold(5, 4, 1, 0, 1), 170859375, 268435456);
        EDGES.all("neither above nor below", Checks.LONG_BAD, x.sold(5, 4, 0, 0, -1), x.sold(5, 4, 0, 0, 2));
    }

    private static void soldBad() {
        EDGES.sentence(17, "BAD.");
        PedlarPack x = with("1:0=16,8,4", 1);
        for (int none : new int[] {-2, 6, Edges.LEAST, Edges.MOST}) {
            EDGES.all("with " + none, Checks.LONG_BAD, x.sold(none, 1, 0, 0, 0), x.sold(0, none, 0, 0, 0), x.sold(0, 1, none, 0, 0),
                    x.sold(0, 1, 0, none, 0), x.sold(0, 1, 0, 0, none));
        }
        EDGES.all("with -1", Checks.LONG_BAD, x.sold(-1, 1, 0, 0, 0), x.sold(0, -1, 0, 0, 0), x.sold(0, 1, -1, 0, 0), x.sold(0, 1, 0, 0, -1));
        EDGES.due("-1 sold is the mean", x.sold(0, 1, 0, -1, 0), 1);
    }

    private static void soldRefusal() {
        EDGES.sentence(17, "(A refusal -x is the least long and x more.)");
        EDGES.due("BAD", new PedlarPack().sold(6, 0, 0, 0, 0), -9223372036854775806L);
    }
}
