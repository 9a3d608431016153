import java.math.BigInteger;
import java.util.ArrayList;
import java.util.List;

/** Boundary cases of sheets: promises 32 to 39 and what the terms say of them. */
public final class EdgesSheetsTest {
    private static final Edges EDGES = new Edges();
    private static final int[] NO_SHEETS = {-1, 4, Edges.LEAST, Edges.MOST};
    private static final int[] NO_FORMS = {-1, 3, Edges.LEAST, Edges.MOST};

    public static void main(String[] args) {
        sheetsAre0To3();
        lostAtFirst();
        formsOfItems();
        sizes();
        itemsAreNothingAtFirst();
        findingsTellTheirNumber();
        findingNull();
        findingIndex();
        findingCast();
        findingStore();
        findingSize();
        sheetIsNew();
        sheetBad();
        sheetSize();
        loseTellsHowMany();
        loseBad();
        loseNull();
        putCutsToBytes();
        putCutsToShorts();
        putKeepsInts();
        putTellsOne();
        putBad();
        putNull();
        putCast();
        putIndex();
        getTheLeastInt();
        getBad();
        getNull();
        getCast();
        getIndex();
        copyAsTheyWere();
        copyToAnother();
        copyBad();
        copyNull();
        copyStore();
        copyIndexBelowNothing();
        copyIndexNotSoMany();
        copyOfNone();
        writeAsManyAsItems();
        writeCuts();
        writeBad();
        writeNull();
        countOfRowAndPack();
        countOfRoads();
        countOfChances();
        countOfTheLine();
        countOfWhatIsSet();
        countOfFindings();
        countBad();
        digestOfANewOne();
        digestTellsEach();
        digestLeavesOutFindings();
        digestBelowNothing();
        digestWraps();
        EDGES.end(32, 39);
    }

    private static void items(String what, PedlarPack x, int s, int form, int... items) {
        for (int i = 0; i < items.length; i++) {
            EDGES.due(what + ": item " + i, x.get(s, form, i), items[i]);
        }
    }

    private static void sheetsAre0To3() {
        EDGES.sentence(0, "SHEETS 0 .. 3");
        PedlarPack x = new PedlarPack();
        for (int s : NO_SHEETS) {
            EDGES.all("no SHEET " + s, Edges.BAD, x.sheet(s, 0, 1), x.lose(s), x.put(s, 0, 0, 0), x.copy(s, 0, 0, 0, 0), x.copy(0, 0, s, 0, 0),
                    x.write(s), x.row(s), x.pack(s), x.read(s, 1));
            EDGES.due("no SHEET " + s, x.get(s, 0, 0), Edges.LEAST);
        }
        for (int s = 0; s < 4; s++) {
            EDGES.due("SHEET " + s, x.sheet(s, 2, s + 1), s + 1);
            x.put(s, 2, 0, s + 10);
        }
        for (int s = 0; s < 4; s++) {
            EDGES.due("each its own", x.get(s, 2, 0), s + 10);
            EDGES.due("each its own size", x.lose(s), s + 1);
        }
    }

    private static void lostAtFirst() {
        EDGES.sentence(0, "are LOST (at first)");
        for (int s = 0; s < 4; s++) {
            PedlarPack x = new PedlarPack();
            EDGES.due("get()", x.get(s, 0, 0), Edges.LEAST);
            EDGES.due("its FINDING", x.count(8), 1);
            EDGES.due("lose()", x.lose(s), Edges.NULL);
            x.sheet(s, 0, 0);
            EDGES.due("one without items is not LOST", x.lose(s), 0);
            EDGES.due("but then", x.lose(s), Edges.NULL);
        }
    }

    private static void formsOfItems() {
        EDGES.sentence(0, "a row of a FORM: 0 bytes, 1 shorts, 2 ints");
        PedlarPack x = new PedlarPack();
        for (int form = 0; form < 3; form++) {
            x.sheet(form, form, 1);
            x.put(form, form, 0, 0x12345678);
        }
        EDGES.due("a byte", x.get(0, 0, 0), 0x78);
        EDGES.due("a short", x.get(1, 1, 0), 0x5678);
        EDGES.due("an int", x.get(2, 2, 0), 0x12345678);
        for (int form : NO_FORMS) {
            EDGES.all("no FORM " + form, Edges.BAD, x.sheet(0, form, 1), x.put(0, form, 0, 0));
            EDGES.due("no FORM " + form, x.get(0, form, 0), Edges.LEAST);
        }
        EDGES.due("no FINDING by that", x.count(8), 0);
    }

    private static void sizes() {
        EDGES.sentence(0, "of 0 to 40 items");
        PedlarPack x = new PedlarPack();
        for (int form = 0; form < 3; form++) {
            EDGES.due("none", x.sheet(0, form, 0), 0);
            EDGES.due("no item in it", x.put(0, form, 0, 1), Edges.INDEX);
            EDGES.due("forty", x.sheet(0, form, 40), 40);
            EDGES.due("the last item", x.put(0, form, 39, 1), 1);
            EDGES.due("no item behind it", x.put(0, form, 40, 1), Edges.INDEX);
            EDGES.due("forty-one", x.sheet(0, form, 41), Edges.BAD);
            EDGES.due("fewer than none", x.sheet(0, form, -1), Edges.SIZE);
        }
    }

    private static void itemsAreNothingAtFirst() {
        EDGES.sentence(0, "of 0 to 40 items (0 at first)");
        PedlarPack x = new PedlarPack();
        for (int form = 0; form < 3; form++) {
            x.sheet(1, form, 40);
            for (int i = 0; i < 40; i++) {
                EDGES.due("item " + i, x.get(1, form, i), 0);
                x.put(1, form, i, -1);
            }
            x.sheet(1, form, 1);
            x.sheet(1, form, 40);
            for (int i = 0; i < 40; i++) {
                EDGES.due("item " + i + " of a new one", x.get(1, form, i), 0);
            }
        }
        x.put(1, 2, 0, 7);
        x.lose(1);
        x.sheet(1, 2, 1);
        EDGES.due("of one that was LOST", x.get(1, 2, 0), 0);
    }

    private static void findingsTellTheirNumber() {
        EDGES.sentence(0, "FINDINGS (answers -10 less the number; they change nothing but count() 8)");
        PedlarPack x = new PedlarPack();
        x.sheet(0, 0, 1);
        x.sheet(1, 1, 1);
        long[] answers = {x.lose(2), x.put(0, 0, 1, 0), x.put(0, 1, 0, 0), x.copy(0, 0, 1, 0, 0), x.sheet(0, 0, -1)};
        for (int number = 1; number <= 5; number++) {
            EDGES.due("number " + number, answers[number - 1], -10 - number);
        }
        EDGES.due("the SHEETS are as they were", x.lose(0) * 10 + x.lose(1), 11);
    }

    private static void findingNull() {
        EDGES.sentence(0, "1 NULL: the SHEET is LOST;");
        PedlarPack x = new PedlarPack();
        x.sheet(0, 0, 0);
        EDGES.all("each act with a SHEET", Edges.NULL, x.lose(1), x.put(1, 0, 0, 0), x.copy(1, 0, 0, 0, 0), x.copy(0, 0, 1, 0, 0), x.write(1),
                x.row(1), x.pack(1), x.read(1, 1));
        EDGES.due("count(8)", x.count(8), 1);
    }

    private static void findingIndex() {
        EDGES.sentence(0, "2 INDEX: there is no such item;");
        PedlarPack x = new PedlarPack();
        x.sheet(0, 0, 5);
        EDGES.all("each act with items", Edges.INDEX, x.put(0, 0, 5, 0), x.put(0, 0, -1, 0), x.copy(0, 0, 0, 0, 6), x.pack(0));
        EDGES.due("count(8)", x.count(8), 2);
    }

    private static void findingCast() {
        EDGES.sentence(0, "3 CAST: it has another FORM;");
        for (int form = 0; form < 3; form++) {
            PedlarPack x = new PedlarPack();
            x.sheet(0, form, 1);
            for (int other = 0; other < 3; other++) {
                EDGES.due(form + " as " + other, x.put(0, other, 0, 5), other == form ? 1 : Edges.CAST);
                EDGES.due("count(8)", x.count(8), form == 0 && other == 0 ? 0 : 3);
            }
        }
    }

    private static void findingStore() {
        EDGES.sentence(0, "4 STORE: unlike FORMS;");
        for (int form = 0; form < 3; form++) {
            for (int other = 0; other < 3; other++) {
                PedlarPack x = new PedlarPack();
                x.sheet(0, form, 1);
                x.sheet(1, other, 1);
                EDGES.due(form + " to " + other, x.copy(0, 0, 1, 0, 1), form == other ? 1 : Edges.STORE);
                EDGES.due("count(8)", x.count(8), form == other ? 0 : 4);
            }
        }
    }

    private static void findingSize() {
        EDGES.sentence(0, "5 SIZE: below 0.");
        PedlarPack x = new PedlarPack();
        EDGES.all("below 0", Edges.SIZE, x.sheet(0, 0, -1), x.sheet(3, 2, -2), x.sheet(1, 1, Edges.LEAST));
        EDGES.due("count(8)", x.count(8), 5);
        EDGES.due("not 0", x.sheet(0, 0, 0), 0);
    }

    private static void sheetIsNew() {
        EDGES.sentence(32, "A SHEET is a new row of a FORM with n items: n.");
        PedlarPack x = new PedlarPack();
        for (int n = 0; n <= 40; n++) {
            EDGES.due("n", x.sheet(2, n % 3, n), n);
            EDGES.due("as many items", x.lose(2), n);
        }
        x.sheet(2, 2, 3);
        x.put(2, 2, 0, 9);
        EDGES.due("another FORM", x.sheet(2, 0, 2), 2);
        EDGES.due("the old FORM is gone", x.put(2, 2, 0, 0), Edges.CAST);
        EDGES.due("the old items are gone", x.get(2, 0, 0), 0);
        EDGES.due("there is no third", x.put(2, 0, 2, 0), Edges.INDEX);
    }

    private static void sheetBad() {
        EDGES.sentence(32, "BAD: SHEET, FORM, above 40;");
        PedlarPack x = new PedlarPack();
        Checks.lay(x, 0, 7);
        for (int s : NO_SHEETS) {
            EDGES.all("no such SHEET", Edges.BAD, x.sheet(s, 0, 0), x.sheet(s, 0, -1));
        }
        for (int form : NO_FORMS) {
            EDGES.all("no such FORM", Edges.BAD, x.sheet(0, form, 0), x.sheet(0, form, -1));
        }
        EDGES.all("above 40", Edges.BAD, x.sheet(0, 0, 41), x.sheet(0, 0, Edges.MOST));
        EDGES.due("BAD is no FINDING", x.count(8), 0);
        EDGES.due("the SHEET stays", x.get(0, 2, 0), 7);
    }

    private static void sheetSize() {
        EDGES.sentence(32, "above 40; SIZE.");
        PedlarPack x = new PedlarPack();
        Checks.lay(x, 0, 7);
        EDGES.all("below 0", Edges.SIZE, x.sheet(0, 0, -1), x.sheet(0, 2, Edges.LEAST), x.sheet(1, 0, -40));
        EDGES.due("the FINDING", x.count(8), 5);
        EDGES.due("the SHEET stays", x.get(0, 2, 0), 7);
        EDGES.due("a LOST one stays LOST", x.lose(1), Edges.NULL);
    }

    private static void loseTellsHowMany() {
        EDGES.sentence(33, "It is LOST: how many items it had.");
        PedlarPack x = new PedlarPack();
        for (int size : new int[] {0, 1, 40}) {
            x.sheet(0, 1, size);
            EDGES.due(size + " items", x.lose(0), size);
            EDGES.due("it is LOST", x.put(0, 1, 0, 0), Edges.NULL);
        }
        x.sheet(0, 0, 1);
        x.sheet(1, 0, 2);
        x.lose(0);
        EDGES.due("no other is", x.lose(1), 2);
    }

    private static void loseBad() {
        EDGES.sentence(33, "BAD; NULL.");
        PedlarPack x = new PedlarPack();
        for (int s : NO_SHEETS) {
            EDGES.due("no such SHEET", x.lose(s), Edges.BAD);
        }
        EDGES.due("BAD is no FINDING", x.count(8), 0);
    }

    private static void loseNull() {
        EDGES.sentence(33, "NULL.");
        PedlarPack x = new PedlarPack();
        EDGES.due("at first", x.lose(3), Edges.NULL);
        x.sheet(3, 0, 1);
        x.lose(3);
        EDGES.all("again", Edges.NULL, x.lose(3), x.lose(3));
        EDGES.due("the FINDING", x.count(8), 1);
    }

    private static void put(int form, int[][] values) {
        PedlarPack x = new PedlarPack();
        x.sheet(0, form, 2);
        for (int[] value : values) {
            EDGES.due("put of " + value[0], x.put(0, form, 1, value[0]), 1);
            EDGES.due("it is then", x.get(0, form, 1), value[1]);
            EDGES.due("the other item", x.get(0, form, 0), 0);
        }
    }

    private static void putCutsToBytes() {
        EDGES.sentence(34, "becomes v (the lowest bits that it has, with its sign;");
        put(0, new int[][] {{0, 0}, {127, 127}, {128, -128}, {129, -127}, {255, -1}, {256, 0}, {383, 127}, {384, -128}, {-1, -1}, {-128, -128},
            {-129, 127}, {-256, 0}, {Edges.MOST, -1}, {Edges.LEAST, 0}});
    }

    private static void putCutsToShorts() {
        EDGES.sentence(34, "the lowest bits that it has, with its sign;");
        put(1, new int[][] {{0, 0}, {128, 128}, {32767, 32767}, {32768, -32768}, {65535, -1}, {65536, 0}, {98303, 32767}, {98304, -32768},
            {-1, -1}, {-32768, -32768}, {-32769, 32767}, {Edges.MOST, -1}, {Edges.LEAST, 0}});
    }

    private static void putKeepsInts() {
        EDGES.sentence(34, "Item i, treated as of a FORM, becomes v");
        put(2, new int[][] {{0, 0}, {65536, 65536}, {-1, -1}, {Edges.MOST, Edges.MOST}, {Edges.LEAST, Edges.LEAST}});
    }

    private static void putTellsOne() {
        EDGES.sentence(34, "by write(), too): 1.");
        PedlarPack x = new PedlarPack();
        x.sheet(0, 0, 40);
        for (int i = 0; i < 40; i++) {
            EDGES.due("item " + i, x.put(0, 0, i, i), 1);
        }
        for (int i = 0; i < 40; i++) {
            EDGES.due("item " + i + " then", x.get(0, 0, i), i);
        }
    }

    private static void putBad() {
        EDGES.sentence(34, "BAD; NULL; CAST; INDEX.");
        PedlarPack x = new PedlarPack();
        x.sheet(0, 0, 1);
        for (int s : NO_SHEETS) {
            EDGES.all("no such SHEET", Edges.BAD, x.put(s, 0, 0, 0), x.put(s, 3, 9, 0));
        }
        for (int form : NO_FORMS) {
            EDGES.all("no such FORM, of a LOST one and behind the end, too", Edges.BAD, x.put(0, form, 0, 0), x.put(1, form, 0, 0), x.put(0, form, 9, 0));
        }
        EDGES.due("BAD is no FINDING", x.count(8), 0);
    }

    private static void putNull() {
        EDGES.sentence(34, "NULL; CAST; INDEX.");
        PedlarPack x = new PedlarPack();
        x.sheet(0, 1, 1);
        x.lose(0);
        EDGES.all("ahead of CAST and INDEX", Edges.NULL, x.put(0, 1, 0, 0), x.put(0, 0, 0, 0), x.put(0, 1, 9, 0), x.put(0, 2, -1, 0));
        EDGES.due("the FINDING", x.count(8), 1);
    }

    private static void putCast() {
        EDGES.sentence(34, "CAST; INDEX.");
        PedlarPack x = new PedlarPack();
        x.sheet(0, 1, 1);
        EDGES.all("ahead of INDEX", Edges.CAST, x.put(0, 0, 0, 5), x.put(0, 2, 0, 5), x.put(0, 2, 1, 5), x.put(0, 0, -1, 5));
        EDGES.due("the FINDING", x.count(8), 3);
        EDGES.due("the item stays", x.get(0, 1, 0), 0);
    }

    private static void putIndex() {
        EDGES.sentence(34, "INDEX.");
        PedlarPack x = new PedlarPack();
        x.sheet(0, 0, 3);
        EDGES.all("no such item", Edges.INDEX, x.put(0, 0, -1, 5), x.put(0, 0, 3, 5), x.put(0, 0, 40, 5), x.put(0, 0, Edges.LEAST, 5),
                x.put(0, 0, Edges.MOST, 5));
        EDGES.due("the FINDING", x.count(8), 2);
        EDGES.due("the last", x.put(0, 0, 2, 5), 1);
        x.sheet(0, 0, 0);
        EDGES.due("of none", x.put(0, 0, 0, 5), Edges.INDEX);
    }

    private static void getTheLeastInt() {
        EDGES.sentence(35, "Item i of it. BAD: the least int;");
        PedlarPack x = new PedlarPack();
        Checks.lay(x, 0, Edges.LEAST, Edges.MOST);
        EDGES.due("an item that is the least int", x.get(0, 2, 0), Edges.LEAST);
        EDGES.due("is no FINDING", x.count(8), 0);
        EDGES.due("the last item", x.get(0, 2, 1), Edges.MOST);
        EDGES.due("behind it", x.get(0, 2, 2), Edges.LEAST);
        EDGES.due("is one", x.count(8), 2);
    }

    private static void getBad() {
        EDGES.sentence(35, "BAD: the least int;");
        PedlarPack x = new PedlarPack();
        Checks.lay(x, 0, 5);
        for (int s : NO_SHEETS) {
            EDGES.due("no such SHEET", x.get(s, 2, 0), Edges.LEAST);
        }
        for (int form : NO_FORMS) {
            EDGES.all("no such FORM, of a LOST one and behind the end, too", Edges.LEAST, x.get(0, form, 0), x.get(1, form, 0), x.get(0, form, 1));
        }
        EDGES.due("BAD is no FINDING", x.count(8), 0);
    }

    private static void finding(PedlarPack x, int s, int form, int i, int number) {
        EDGES.due("get(" + s + ", " + form + ", " + i + ")", x.get(s, form, i), Edges.LEAST);
        EDGES.due("count(8) behind it", x.count(8), number);
    }

    private static void getNull() {
        EDGES.sentence(35, "so are NULL, CAST, INDEX (count() 8 tells)");
        PedlarPack x = new PedlarPack();
        finding(x, 0, 0, 0, 1);
        x.sheet(0, 1, 1);
        finding(x, 0, 1, 1, 2);
        x.lose(0);
        finding(x, 0, 0, 0, 1);
        finding(x, 0, 1, -1, 1);
    }

    private static void getCast() {
        EDGES.sentence(35, "CAST, INDEX (count() 8 tells)");
        PedlarPack x = new PedlarPack();
        x.sheet(0, 1, 1);
        finding(x, 0, 0, 0, 3);
        finding(x, 0, 1, 1, 2);
        finding(x, 0, 2, 1, 3);
        finding(x, 0, 0, -1, 3);
    }

    private static void getIndex() {
        EDGES.sentence(35, "INDEX (count() 8 tells)");
        for (int i : new int[] {-1, 3, 40, Edges.LEAST, Edges.MOST}) {
            PedlarPack x = new PedlarPack();
            x.sheet(0, 0, 3);
            finding(x, 0, 0, i, 2);
        }
        PedlarPack x = new PedlarPack();
        x.sheet(0, 0, 0);
        finding(x, 0, 0, 0, 2);
    }

    private static void copyAsTheyWere() {
        EDGES.sentence(36, "come to SHEET t (perhaps s, as they were), from j on: 1.");
        PedlarPack x = new PedlarPack();
        Checks.lay(x, 0, 1, 2, 3, 4, 5);
        EDGES.due("up by one", x.copy(0, 0, 0, 1, 4), 1);
        items("up by one", x, 0, 2, 1, 1, 2, 3, 4);
        Checks.lay(x, 0, 1, 2, 3, 4, 5);
        EDGES.due("down by one", x.copy(0, 1, 0, 0, 4), 1);
        items("down by one", x, 0, 2, 2, 3, 4, 5, 5);
        EDGES.due("to where they are", x.copy(0, 0, 0, 0, 5), 1);
        items("to where they are", x, 0, 2, 2, 3, 4, 5, 5);
    }

    private static void copyToAnother() {
        EDGES.sentence(36, "n items of SHEET s, from i on,");
        for (int form = 0; form < 3; form++) {
            PedlarPack x = new PedlarPack();
            x.sheet(0, form, 3);
            x.sheet(1, form, 4);
            for (int i = 0; i < 3; i++) {
                x.put(0, form, i, i - 300);
                x.put(1, form, i, 7);
            }
            EDGES.due("all of them to the end", x.copy(0, 0, 1, 1, 3), 1);
            items("to the end", x, 1, form, 7, x.get(0, form, 0), x.get(0, form, 1), x.get(0, form, 2));
            EDGES.due("the last one alone", x.copy(0, 2, 1, 0, 1), 1);
            items("the last one", x, 1, form, x.get(0, form, 2), x.get(0, form, 0));
            x.put(0, form, 2, 1);
            EDGES.due("not changed with it", x.get(1, form, 3) == 1 ? 1 : 0, 0);
        }
    }

    private static void copyBad() {
        EDGES.sentence(36, "BAD: the SHEETS;");
        PedlarPack x = new PedlarPack();
        x.sheet(0, 0, 1);
        for (int s : NO_SHEETS) {
            EDGES.all("one of them, with a good one or with a LOST one", Edges.BAD, x.copy(s, 0, 0, 0, 0), x.copy(0, 0, s, 0, 0), x.copy(s, 0, 1, 0, 0),
                    x.copy(1, 0, s, 0, 0), x.copy(s, 0, s, 0, 0), x.copy(s, -1, 0, -1, -1));
        }
        EDGES.due("BAD is no FINDING", x.count(8), 0);
    }

    private static void copyNull() {
        EDGES.sentence(36, "NULL: s, t;");
        PedlarPack x = new PedlarPack();
        x.sheet(0, 0, 1);
        x.sheet(2, 1, 1);
        x.lose(2);
        EDGES.all("s, t, both, ahead of STORE and INDEX", Edges.NULL, x.copy(1, 0, 0, 0, 0), x.copy(0, 0, 1, 0, 0), x.copy(1, 0, 1, 0, 0),
                x.copy(2, 0, 0, 0, 0), x.copy(0, 0, 2, 0, 0), x.copy(0, -1, 1, 0, 0), x.copy(1, 0, 0, 0, -1));
        EDGES.due("the FINDING", x.count(8), 1);
    }

    private static void copyStore() {
        EDGES.sentence(36, "STORE; INDEX:");
        PedlarPack x = new PedlarPack();
        x.sheet(0, 0, 1);
        x.sheet(1, 1, 1);
        x.sheet(2, 2, 0);
        EDGES.all("ahead of INDEX, of no items, too", Edges.STORE, x.copy(0, 0, 1, 0, 1), x.copy(1, 0, 0, 0, 1), x.copy(0, 0, 1, 0, 0),
                x.copy(0, 0, 2, 0, 0), x.copy(2, -1, 0, 0, 0), x.copy(1, 0, 2, 0, -1), x.copy(0, 9, 1, 9, 9));
        EDGES.due("the FINDING", x.count(8), 4);
    }

    private static void copyIndexBelowNothing() {
        EDGES.sentence(36, "INDEX: i, j or n below 0,");
        PedlarPack x = new PedlarPack();
        Checks.lay(x, 0, 1, 2, 3);
        x.sheet(1, 2, 3);
        for (int below : new int[] {-1, -2, -40, Edges.LEAST}) {
            EDGES.all("below 0", Edges.INDEX, x.copy(0, below, 1, 0, 1), x.copy(0, 0, 1, below, 1), x.copy(0, 0, 1, 0, below),
                    x.copy(0, below, 1, 0, 0), x.copy(0, 0, 1, below, 0), x.copy(0, 1, 1, 1, below), x.copy(0, 3, 1, 3, below));
        }
        EDGES.due("the FINDING", x.count(8), 2);
        items("nothing came", x, 1, 2, 0, 0, 0);
    }

    private static void copyIndexNotSoMany() {
        EDGES.sentence(36, "not so many there");
        PedlarPack x = new PedlarPack();
        Checks.lay(x, 0, 1, 2, 3);
        x.sheet(1, 2, 5);
        EDGES.all("fewer in s", Edges.INDEX, x.copy(0, 0, 1, 0, 4), x.copy(0, 1, 1, 0, 3), x.copy(0, 3, 1, 0, 1));
        EDGES.all("fewer in t", Edges.INDEX, x.copy(0, 0, 1, 3, 3), x.copy(0, 0, 1, 5, 1), x.copy(1, 0, 0, 0, 4));
        EDGES.all("far too many", Edges.INDEX, x.copy(0, 0, 1, 0, Edges.MOST), x.copy(0, 1, 1, 0, Edges.MOST), x.copy(0, Edges.MOST, 1, 0, 1),
                x.copy(0, 0, 1, Edges.MOST, 1), x.copy(0, Edges.MOST, 1, Edges.MOST, Edges.MOST), x.copy(0, 0, 1, 2, Edges.MOST));
        items("nothing came", x, 1, 2, 0, 0, 0, 0, 0);
        EDGES.all("just so many", 1, x.copy(0, 0, 1, 2, 3), x.copy(0, 2, 1, 0, 1));
        items("they came", x, 1, 2, 3, 0, 1, 2, 3);
    }

    private static void copyOfNone() {
        EDGES.sentence(36, "(of n 0, too: i or j above the size)");
        PedlarPack x = new PedlarPack();
        Checks.lay(x, 0, 1, 2, 3);
        x.sheet(1, 2, 0);
        EDGES.all("none, at the ends", 1, x.copy(0, 0, 1, 0, 0), x.copy(0, 3, 1, 0, 0), x.copy(1, 0, 0, 3, 0), x.copy(1, 0, 1, 0, 0));
        EDGES.due("no FINDING", x.count(8), 0);
        EDGES.all("none, above the size", Edges.INDEX, x.copy(0, 4, 1, 0, 0), x.copy(0, 0, 1, 1, 0), x.copy(1, 1, 0, 0, 0), x.copy(1, 0, 0, 4, 0),
                x.copy(0, Edges.MOST, 1, 0, 0), x.copy(0, 0, 1, Edges.MOST, 0));
    }

    /** THING 0 four times, THING 5 once is the BEST PACK. */
    private static PedlarPack fourAndOne() {
        PedlarPack x = new PedlarPack();
        Checks.wants(x, "1:0=16,16,16;2:0=16,16,16;3:0=16,16,16;4:0=16,16,16;1:5=16,16,16");
        Checks.row(x, 1, 2, 3, 4);
        return x;
    }

    private static void writeAsManyAsItems() {
        EDGES.sentence(37, "from item 0 on, as many as there are items (6 at most): how many.");
        PedlarPack x = fourAndOne();
        int[] due = {4, 0, 0, 0, 0, 1, 9, 9};
        for (int size : new int[] {0, 1, 5, 6, 7, 8}) {
            x.sheet(0, 1, size);
            for (int i = 0; i < size; i++) {
                x.put(0, 1, i, 9);
            }
            EDGES.due(size + " items", x.write(0), Math.min(size, 6));
            items(size + " items", x, 0, 1, java.util.Arrays.copyOf(due, size));
        }
        x.sheet(0, 0, 40);
        EDGES.due("forty items", x.write(0), 6);
        EDGES.due("they are a PACK", x.pack(0), 5);
        EDGES.due("the BEST one", x.gain(0), x.load(0, 0));
        Checks.row(x);
        EDGES.due("an empty PACK is written, too", x.write(0), 6);
        items("an empty PACK", x, 0, 0, 0, 0, 0, 0, 0, 0);
    }

    private static void writeCuts() {
        EDGES.sentence(34, "by write(), too)");
        for (int form = 0; form < 3; form++) {
            PedlarPack x = fourAndOne();
            x.sheet(0, form, 6);
            x.put(0, form, 0, -1);
            x.write(0);
            EDGES.due("the number is all of the item", x.get(0, form, 0), 4);
        }
    }

    private static void writeBad() {
        EDGES.sentence(37, "BAD; NULL.");
        PedlarPack x = fourAndOne();
        for (int s : NO_SHEETS) {
            EDGES.due("no such SHEET", x.write(s), Edges.BAD);
        }
        EDGES.due("BAD is no FINDING", x.count(8), 0);
    }

    private static void writeNull() {
        EDGES.sentence(37, "NULL.");
        PedlarPack x = fourAndOne();
        x.lose(3);
        for (int s = 0; s < 4; s++) {
            EDGES.due("a LOST SHEET", x.write(s), Edges.NULL);
            EDGES.due("stays LOST", x.lose(s), Edges.NULL);
        }
        EDGES.due("the FINDING", x.count(8), 1);
    }

    private static void countOfRowAndPack() {
        EDGES.sentence(38, "0 FARMS of the ROW, 1 weight of the PACK,");
        PedlarPack x = new PedlarPack();
        EDGES.all("at first", 0, x.count(0), x.count(1));
        Checks.row(x, 1, 2, 3, 4, 5, 6, 7);
        Checks.pack(x, 4, 4, 4, 4, 4, 4);
        EDGES.due("all FARMS", x.count(0), 7);
        EDGES.due("beyond the LIMIT", x.count(1), 24);
        x.thing(5, 1, 20);
        EDGES.due("by the WEIGHTS that there are", x.count(1), 100);
    }

    private static void countOfRoads() {
        EDGES.sentence(38, "2 ROADS,");
        PedlarPack x = new PedlarPack();
        EDGES.due("none", x.count(2), 0);
        for (int a = 0; a < 8; a++) {
            for (int b = 0; b < 8; b++) {
                x.road(a, b, 1);
            }
        }
        EDGES.due("all, each once", x.count(2), 28);
        x.road(7, 0, 0);
        x.road(0, 7, 0);
        EDGES.due("all but one", x.count(2), 27);
    }

    private static void countOfChances() {
        EDGES.sentence(38, "3 CHANCES above 0 (less what a SHOP takes),");
        PedlarPack x = new PedlarPack();
        EDGES.due("none", x.count(3), 0);
        for (int farm = 1; farm <= 7; farm++) {
            for (int thing = 0; thing < 6; thing++) {
                Checks.wants(x, farm + ":" + thing + "=3,2,1");
            }
        }
        EDGES.due("all", x.count(3), 126);
        x.shop(5, 1);
        EDGES.due("1 less 1 is 0", x.count(3), 119);
        x.shop(5, 2);
        EDGES.due("2 less 2 is 0", x.count(3), 112);
        x.shop(5, 16);
        EDGES.due("none of THING 5", x.count(3), 105);
    }

    private static void countOfTheLine() {
        EDGES.sentence(38, "4 bytes of the LINE,");
        PedlarPack x = new PedlarPack();
        EDGES.due("none", x.count(4), 0);
        for (int n = 0; n < 50; n++) {
            x.type(0);
        }
        EDGES.due("no more than it holds", x.count(4), 40);
        x.wipe();
        EDGES.due("none again", x.count(4), 0);
    }

    private static void countOfWhatIsSet() {
        EDGES.sentence(38, "5 HOURS of a DAY, 6 LIMIT, 7 OPEN FARMS,");
        PedlarPack x = new PedlarPack();
        EDGES.due("at first", x.count(5) * 1000000 + x.count(6) * 1000 + x.count(7), 60020127);
        x.set(0, 1);
        x.set(1, 2);
        x.set(2, 0);
        EDGES.due("then", x.count(5) * 1000000 + x.count(6) * 1000 + x.count(7), 1002000);
        x.set(2, 96);
        EDGES.due("OPEN FARMS as set() has them", x.count(7), 96);
    }

    private static void countOfFindings() {
        EDGES.sentence(38, "8 the number of the latest FINDING (0 before any).");
        PedlarPack x = new PedlarPack();
        x.lose(9);
        x.wants();
        x.round(0);
        EDGES.due("BAD, NOT and FULL are none", x.count(8), 0);
        x.lose(0);
        EDGES.due("NULL", x.count(8), 1);
        x.sheet(0, 0, -1);
        EDGES.due("SIZE", x.count(8), 5);
        x.sheet(0, 0, 1);
        EDGES.due("what goes well leaves it", x.count(8), 5);
        x.lose(9);
        EDGES.due("so does BAD", x.count(8), 5);
        x.get(0, 1, 0);
        EDGES.due("CAST", x.count(8), 3);
    }

    private static void countBad() {
        EDGES.sentence(38, "(0 before any). BAD.");
        PedlarPack x = new PedlarPack();
        EDGES.all("no such count", Edges.BAD, x.count(-1), x.count(9), x.count(10), x.count(Edges.LEAST), x.count(Edges.MOST));
        EDGES.due("the last", x.count(8), 0);
    }

    private static void digestOfANewOne() {
        EDGES.sentence(39, "h is 17; h becomes 31 h and each of");
        List<Long> told = new ArrayList<>();
        for (long each : new long[] {0, 0, 0, 0, 0, 60, 20, 127, 0}) {
            told.add(each);
        }
        for (int thing = 0; thing < 6; thing++) {
            for (long each : new long[] {1, 1, 0, 2, 3, 4, 0, 0}) {
                told.add(each);
            }
        }
        for (long each : new long[] {0, 0, 0, 1, 0, 1, 0, 1, 0, 1, -1}) {
            told.add(each);
        }
        EDGES.due("of a new one", new PedlarPack().digest(), fold(told));
    }

    private static long fold(List<Long> told) {
        BigInteger h = BigInteger.valueOf(17);
        for (long each : told) {
            h = h.multiply(BigInteger.valueOf(31)).add(BigInteger.valueOf(each));
        }
        return h.longValue();
    }

    /** An object with all that digest() tells, and one of its figures changed. */
    private static PedlarPack changed(int change) {
        PedlarPack x = fourAndOne();
        x.road(0, 1, change == 1 ? 6 : 5);
        if (change == 2) {
            x.road(5, 6, 1);
        }
        if (change == 3) {
            Checks.wants(x, "7:3=1,0,0");
        }
        Checks.type(x, change == 4 ? "1:0=9,9,9;" : change == 5 ? "1:0=9,9,99" : "1:0=9,9,9;;");
        if (change >= 6 && change <= 8) {
            x.set(change - 6, 19);
        }
        Checks.pack(x, change == 9 ? 2 : 1, 0, 0, 0, 0, 1);
        if (change == 10) {
            Checks.row(x, 1, 2, 3);
        }
        if (change >= 20) {
            int thing = (change - 20) / 6;
            int what = (change - 20) % 6;
            int[] other = {2, 2, 1, 1, 4, 5};
            x.thing(thing, what, other[what]);
        }
        return x;
    }

    private static void digestTellsEach() {
        EDGES.sentence(39, "(of each thing all that is told of it, then of the next one)");
        long first = changed(0).digest();
        EDGES.due("the same calls, the same answer", changed(0).digest(), first);
        int[] changes = new int[46];
        for (int i = 0; i < 46; i++) {
            changes[i] = i < 10 ? i + 1 : i + 10;
        }
        for (int change : changes) {
            EDGES.due("change " + change + " is not seen", changed(change).digest() == first ? 1 : 0, 0);
        }
    }

    private static void digestLeavesOutFindings() {
        EDGES.sentence(39, "count() 0 to 7;");
        PedlarPack x = changed(0);
        long first = x.digest();
        x.get(0, 0, 0);
        EDGES.due("count() 8 is not in it", x.digest(), first);
        x.sheet(2, 2, 5);
        EDGES.due("nor are SHEETS", x.digest(), first);
        EDGES.due("it changes nothing", x.digest(), first);
        EDGES.due("nor the FINDING", x.count(8), 1);
    }

    private static void digestBelowNothing() {
        EDGES.sentence(39, "hours(); judged(); gain() 0, 1; load() 0 to 2, above and below each; straps();");
        PedlarPack x = new PedlarPack();
        Checks.thing(x, 0, 1, 20, 99, 0, 0, 0);
        Checks.row(x, 1);
        Checks.pack(x, 4, 0, 0, 0, 0, 0);
        List<Long> told = new ArrayList<>();
        for (long each : new long[] {1, 80, 0, 0, 0, 60, 20, 127, 0, 1, 20, 99, 0, 0, 0, 0, 0}) {
            told.add(each);
        }
        for (int thing = 1; thing < 6; thing++) {
            for (long each : new long[] {1, 1, 0, 2, 3, 4, 0, 0}) {
                told.add(each);
            }
        }
        for (long each : new long[] {2000, 1, -396, 1, 0, 1, 0, 1, 0, 1, -1}) {
            told.add(each);
        }
        EDGES.due("too heavy, no WAY, a GAIN below 0", x.digest(), fold(told));
    }

    private static void digestWraps() {
        EDGES.sentence(39, "as longs that wrap.");
        PedlarPack x = changed(0);
        List<Long> told = new ArrayList<>();
        for (int what = 0; what < 8; what++) {
            told.add((long) x.count(what));
        }
        told.add((long) x.fault());
        for (int thing = 0; thing < 6; thing++) {
            for (long each : new long[] {1, 1, 0, 2, 3, 4, x.best(thing), x.loaded(thing)}) {
                told.add(each);
            }
        }
        for (long each : new long[] {x.hours(), x.judged(), x.gain(0), x.gain(1), x.load(0, 0), x.load(0, 1), x.load(1, 0), x.load(1, 1),
            x.load(2, 0), x.load(2, 1), x.straps()}) {
            told.add(each);
        }
        EDGES.due("far beyond a long, cut to its bits", x.digest(), fold(told));
    }
}
