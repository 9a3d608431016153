/** Boundary cases of wants: promises 6 to 12 and what the terms say of them. */
public final class EdgesWantsTest {
    private static final Edges EDGES = new Edges();

    public static void main(String[] args) {
        oneAtMostIsBought();
        eachByItself();
        chancesAre0To16();
        chancesAtFirst();
        chancesNoneMoreThanTheOneAhead();
        lineOfUpTo40Bytes();
        partsWithSemicolons();
        farmsInTheLine();
        thingsInTheLine();
        threeNumbers();
        oneOrTwoFigures();
        firstByteThatCannotGoOn();
        notEnded();
        emptyLine();
        numberThatMayNotBe();
        shopTakes0To16();
        shopTakesWhatThereIs();
        typeTakesBytes();
        typeFull();
        typeBadAheadOfFull();
        wipeTellsHowMany();
        faultNone();
        faultChangesNothing();
        wantsPartByPart();
        wantsEmptiesTheLine();
        wantsNot();
        readThreeForEachThing();
        readWhatIsWhole();
        readUpToWhatMayNotBe();
        readBad();
        readNull();
        chanceLessTheShop();
        chanceBad();
        shopTellsWhatItWas();
        shopBad();
        EDGES.end(6, 12);
    }

    private static PedlarPack with(String wants) {
        PedlarPack x = new PedlarPack();
        Checks.wants(x, wants);
        return x;
    }

    private static void fault(String text, int want) {
        EDGES.due("fault() of " + text, Checks.faultOf(text), want);
    }

    private static void oneAtMostIsBought() {
        EDGES.sentence(0, "at a FARM a THING is bought (one, at most)");
        PedlarPack x = with("1:0=16,16,16;2:0=16,16,16");
        Checks.row(x, 1);
        EDGES.fraction("one of four", x.sold(0, 4, 0, 1, 0), x.sold(0, 4, 0, 1, 1), 1, 1);
        EDGES.fraction("never two", x.sold(0, 4, 0, 2, 0), x.sold(0, 4, 0, 2, 1), 0, 1);
        EDGES.due("4, and three that come home", x.value(0, 0, 4, 0), 7);
        Checks.row(x, 2, 1);
        EDGES.due("two at two FARMS", x.sold(0, 4, 0, 2, 0), 1);
    }

    private static void eachByItself() {
        EDGES.sentence(0, "0 at first), each by itself.");
        PedlarPack x = with("1:0=8,8,8;2:0=8,8,8;1:1=8,8,8");
        Checks.row(x, 1, 2);
        EDGES.fraction("at both FARMS", x.sold(0, 2, 0, 2, 0), x.sold(0, 2, 0, 2, 1), 1, 4);
        EDGES.fraction("at one of them", x.sold(0, 2, 0, 1, 0), x.sold(0, 2, 0, 1, 1), 1, 2);
        EDGES.fraction("at none", x.sold(0, 2, 0, 0, 0), x.sold(0, 2, 0, 0, 1), 1, 4);
        EDGES.fraction("another THING", x.sold(1, 2, 0, 1, 0), x.sold(1, 2, 0, 1, 1), 1, 2);
        Checks.pack(x, 1, 1, 0, 0, 0, 0);
        EDGES.fraction("3 by 3/4 and 3 by 1/2", x.gain(0), x.gain(1), 15, 4);
    }

    private static void chancesAre0To16() {
        EDGES.sentence(0, "CHANCES c by 16 at each LEVEL (0 to 16,");
        PedlarPack x = with("1:0=16,16,16;2:0=0,0,0");
        EDGES.all("16", 16, x.chance(1, 0, 0), x.chance(1, 0, 1), x.chance(1, 0, 2));
        EDGES.all("0", 0, x.chance(2, 0, 0), x.chance(2, 0, 1), x.chance(2, 0, 2));
        fault("1:0=17,0,0", 4);
        fault("1:0=17,17,17", 4);
        Checks.row(x, 1);
        EDGES.due("16 by 16 is sure", x.sold(0, 1, 0, 1, 1), 1);
        Checks.row(x, 2);
        EDGES.due("0 by 16 is never", x.sold(0, 1, 0, 1, 0), 0);
    }

    private static void chancesAtFirst() {
        EDGES.sentence(0, "none more than the one ahead; 0 at first)");
        PedlarPack x = new PedlarPack();
        EDGES.all("at first", 0, x.chance(1, 0, 0), x.chance(7, 5, 2), x.chance(4, 3, 1), x.count(3));
    }

    private static void chancesNoneMoreThanTheOneAhead() {
        EDGES.sentence(0, "none more than the one ahead;");
        fault("1:0=7,7,7", -1);
        fault("1:0=7,8,7", 6);
        fault("1:0=7,6,7", 8);
        fault("1:0=7,7,8", 8);
        fault("1:0=9,10,0", 6);
        fault("1:0=0,0,1", 8);
        fault("1:0=0,1,0", 6);
        fault("1:0=16,15,16", 10);
        fault("1:0=0,0,0;1:1=16,16,16", -1);
    }

    private static void lineOfUpTo40Bytes() {
        EDGES.sentence(0, "a LINE, a text of up to 40 bytes");
        String whole = "1:0=0,0,0;2:0=0,0,0;3:0=0,0,0;4:0=10,0,0";
        PedlarPack x = new PedlarPack();
        Checks.type(x, whole);
        EDGES.due("forty", x.count(4), 40);
        EDGES.due("all of them are read", x.fault(), -1);
        EDGES.due("one more", x.type(';'), Edges.FULL);
        EDGES.due("wants()", x.wants(), 4);
        EDGES.due("by the last part", x.chance(4, 0, 0), 10);
        fault("1:0=0,0,0;2:0=0,0,0;3:0=0,0,0;4:0=10,0,1", 39);
    }

    private static void partsWithSemicolons() {
        EDGES.sentence(0, "parts with ; between them");
        fault(";", 0);
        fault(";1:0=0,0,0", 0);
        fault("1:0=0,0,0;", 10);
        fault("1:0=0,0,0;;", 10);
        fault("1:0=0,0,0,1:0=0,0,0", 9);
        fault("1:0=0,0,0 ;1:0=0,0,0", 9);
        fault("1:0=0,0,0:", 9);
        fault("1:0=0,0,0;7:5=0,0,0", -1);
    }

    private static void farmsInTheLine() {
        EDGES.sentence(0, "a FARM (1 to 7), :,");
        fault("1:0=0,0,0", -1);
        fault("7:0=0,0,0", -1);
        fault("0:0=0,0,0", 0);
        fault("8:0=0,0,0", 0);
        fault("9", 0);
        fault("/:0=0,0,0", 0);
        fault("::0=0,0,0", 0);
        fault("11:0=0,0,0", 1);
        fault("01:0=0,0,0", 0);
        fault("1=0=0,0,0", 1);
        fault("1 :0=0,0,0", 1);
    }

    private static void thingsInTheLine() {
        EDGES.sentence(0, "a THING (0 to 5), =,");
        fault("1:5=0,0,0", -1);
        fault("1:6=0,0,0", 2);
        fault("1:/=0,0,0", 2);
        fault("1:=0,0,0", 2);
        fault("1:00=0,0,0", 3);
        fault("1:0:0,0,0", 3);
        fault("1:0==0,0,0", 4);
    }

    private static void threeNumbers() {
        EDGES.sentence(0, "three numbers (one or two figures) with , between them");
        fault("1:0=3", 5);
        fault("1:0=3;", 5);
        fault("1:0=3,2", 7);
        fault("1:0=3,2;", 7);
        fault("1:0=3,2,1", -1);
        fault("1:0=3,2,1,0", 9);
        fault("1:0=3;2;1", 5);
        fault("1:0=3,,1", 6);
        fault("1:0=,2,1", 4);
        fault("1:0=3,2,;", 8);
    }

    private static void oneOrTwoFigures() {
        EDGES.sentence(0, "(one or two figures)");
        fault("1:0=0,0,0", -1);
        fault("1:0=16,16,16", -1);
        fault("1:0=00,00,00", -1);
        fault("1:0=09,9,08", -1);
        fault("1:0=000,0,0", 6);
        fault("1:0=016,0,0", 6);
        fault("1:0=160,0,0", 6);
        fault("1:0=16,160,0", 9);
        fault("1:0=16,16,160", 12);
        fault("1:0=1 ,1,1", 5);
        fault("1:0=-1,1,1", 4);
        fault("1:0=+1,1,1", 4);
        PedlarPack x = with("1:0=09,8,07");
        EDGES.due("as numbers", x.chance(1, 0, 0) * 100 + x.chance(1, 0, 1) * 10 + x.chance(1, 0, 2), 987);
        x = with("1:0=16,15,10");
        EDGES.due("of two figures", x.chance(1, 0, 0) * 10000 + x.chance(1, 0, 1) * 100 + x.chance(1, 0, 2), 161510);
    }

    private static void firstByteThatCannotGoOn() {
        EDGES.sentence(0, "The FAULT is the place of the first byte with which it cannot go on");
        String good = "2:1=12,8,4;3:4=16,0,0";
        for (int place = 0; place < good.length(); place++) {
            // Behind one figure of a number its end, a comma or a second figure may stand, but no letter.
            fault(good.substring(0, place) + "x" + good.substring(place), place);
        }
        PedlarPack x = new PedlarPack();
        x.type(128 + '1');
        EDGES.due("a byte above 127 is no figure", x.fault(), 0);
        x.wipe();
        x.type('1');
        x.type(0);
        EDGES.due("a byte 0", x.fault(), 1);
        x.type(255);
        EDGES.due("the first of two", x.fault(), 1);
    }

    private static void notEnded() {
        EDGES.sentence(0, "(of one that is not ended, its end:");
        String good = "7:5=16,15,14;1:0=5,5,5";
        for (int length = 1; length <= good.length(); length++) {
            boolean ended = length == 11 || length == 12 || length == 22;
            fault(good.substring(0, length), ended ? -1 : length);
        }
        fault("1:0=0,0,0;2:0=0,0,0;3:0=0,0,0;4:0=0,0,0;", 40);
        fault("1:0=16,16,16;2:0=16,16,16;3:0=16,16,16;4", 40);
        fault("1:0=10,0,0;2:0=10,0,0;3:0=10,0,0;4:0=9,9", 40);
        fault("1:0=10,0,0;2:0=10,0,0;3:0=10,0,0;4:0=10,", 40);
        PedlarPack x = new PedlarPack();
        for (int length = 0; length <= 10; length++) {
            Checks.type(x, good);
            x.wipe();
            Checks.type(x, good.substring(0, length));
            EDGES.due("what was wiped does not go on with the first " + length, x.fault(), length);
            x.wipe();
        }
    }

    private static void emptyLine() {
        EDGES.sentence(0, "of an empty LINE 0)");
        PedlarPack x = new PedlarPack();
        EDGES.due("at first", x.fault(), 0);
        Checks.type(x, "1:0=0,0,0");
        x.wipe();
        EDGES.due("wiped", x.fault(), 0);
        Checks.type(x, "1:0=0,0,0");
        x.wants();
        EDGES.due("behind wants()", x.fault(), 0);
    }

    private static void numberThatMayNotBe() {
        EDGES.sentence(0, "or of the first figure of a number that may not be.");
        fault("1:0=17,1,1", 4);
        fault("1:0=17", 4);
        fault("1:0=20", 4);
        fault("1:0=99x", 4);
        fault("1:0=170", 4);
        fault("1:0=16,17,1", 7);
        fault("1:0=16,16,17", 10);
        fault("1:0=5,16,1", 6);
        fault("1:0=5,5,16", 8);
        fault("1:0=5,6", 6);
        fault("1:0=5,6x", 6);
        fault("1:0=05,06,0", 7);
        fault("1:0=5,5,5;1:0=17,0,0", 14);
        fault("1:0=5,5,5;1:0=5,6,0", 16);
    }

    private static void shopTakes0To16() {
        EDGES.sentence(0, "A SHOP takes so many sixteenths (0 to 16; 0 at first)");
        PedlarPack x = with("1:0=16,16,16");
        EDGES.all("too small, too large", Edges.BAD, x.shop(0, -1), x.shop(0, 17), x.shop(0, Edges.LEAST), x.shop(0, Edges.MOST));
        EDGES.due("0 at first, the most", x.shop(0, 16), 0);
        EDGES.due("all is taken", x.chance(1, 0, 0), 0);
        EDGES.due("the least", x.shop(0, 0), 16);
        EDGES.due("nothing is taken", x.chance(1, 0, 0), 16);
    }

    private static void shopTakesWhatThereIs() {
        EDGES.sentence(0, "off all CHANCES of a THING, as far as there are any.");
        PedlarPack x = with("1:0=5,4,3;7:0=16,4,0;1:1=4,4,4");
        x.shop(0, 4);
        EDGES.due("more than it takes", x.chance(1, 0, 0), 1);
        EDGES.all("as many or fewer", 0, x.chance(1, 0, 1), x.chance(1, 0, 2), x.chance(7, 0, 1), x.chance(7, 0, 2));
        EDGES.due("at every FARM", x.chance(7, 0, 0), 12);
        EDGES.due("no other THING", x.chance(1, 1, 2), 4);
        x.shop(0, 1);
        EDGES.due("they are not gone for good", x.chance(1, 0, 0) * 100 + x.chance(1, 0, 1) * 10 + x.chance(1, 0, 2), 432);
    }

    private static void typeTakesBytes() {
        EDGES.sentence(6, "A byte (0 to 255) comes behind the LINE: how many.");
        PedlarPack x = new PedlarPack();
        EDGES.all("too small, too large", Edges.BAD, x.type(-1), x.type(256), x.type(Edges.LEAST), x.type(Edges.MOST), x.type(256 + '1'));
        EDGES.due("none of them came", x.count(4), 0);
        EDGES.due("the least", x.type(0), 1);
        EDGES.due("the most", x.type(255), 2);
    }

    private static void typeFull() {
        EDGES.sentence(6, "FULL.");
        PedlarPack x = new PedlarPack();
        for (int n = 1; n <= 40; n++) {
            EDGES.due("byte " + n, x.type('1'), n);
        }
        EDGES.all("the 41st", Edges.FULL, x.type('1'), x.type(0), x.type(255));
        EDGES.due("it stays full", x.count(4), 40);
        x.wipe();
        EDGES.due("wiped", x.type('1'), 1);
    }

    private static void typeBadAheadOfFull() {
        EDGES.sentence(6, "BAD; FULL.");
        PedlarPack x = new PedlarPack();
        for (int n = 1; n <= 40; n++) {
            x.type('1');
        }
        EDGES.all("bad ones into a full LINE", Edges.BAD, x.type(-1), x.type(256));
    }

    private static void wipeTellsHowMany() {
        EDGES.sentence(7, "The LINE is empty: how many bytes it had.");
        PedlarPack x = new PedlarPack();
        EDGES.due("none", x.wipe(), 0);
        x.type(';');
        EDGES.due("one", x.wipe(), 1);
        EDGES.all("empty then", 0, x.count(4), x.wipe(), x.fault());
        for (int n = 0; n < 41; n++) {
            x.type(';');
        }
        EDGES.due("a full one", x.wipe(), 40);
        EDGES.due("empty then", x.count(4), 0);
    }

    private static void faultNone() {
        EDGES.sentence(8, "The FAULT; NONE.");
        fault("1:0=0,0,0", -1);
        fault("1:0=0,0,00", -1);
        fault("1:0=0,0,0x", 9);
        fault("", 0);
    }

    private static void faultChangesNothing() {
        EDGES.sentence(8, "The FAULT;");
        PedlarPack x = new PedlarPack();
        Checks.type(x, "1:0=5,4,3");
        EDGES.all("again and again", -1, x.fault(), x.fault());
        EDGES.due("the LINE stays", x.count(4), 9);
        EDGES.due("no WANTS by it", x.count(3), 0);
        x.type('x');
        EDGES.all("again and again", 9, x.fault(), x.fault());
    }

    private static void wantsPartByPart() {
        EDGES.sentence(9, "WANTS become as the LINE tells, part by part;");
        PedlarPack x = with("1:0=9,8,7;1:0=3,2,1");
        EDGES.due("the last of two for one", x.chance(1, 0, 0) * 100 + x.chance(1, 0, 1) * 10 + x.chance(1, 0, 2), 321);
        Checks.wants(x, "1:0=0,0,0");
        EDGES.due("none again", x.count(3), 0);
        Checks.wants(x, "7:5=1,1,1;1:5=1,1,1");
        Checks.wants(x, "7:0=1,1,1");
        EDGES.due("what is not told stays", x.count(3), 9);
    }

    private static void wantsEmptiesTheLine() {
        EDGES.sentence(9, "it is empty then: how many parts.");
        PedlarPack x = new PedlarPack();
        Checks.type(x, "1:0=0,0,0");
        EDGES.due("one", x.wants(), 1);
        EDGES.due("it is empty", x.count(4), 0);
        Checks.type(x, "1:0=0,0,0;1:0=0,0,0;1:0=0,0,0;1:0=0,0,0");
        EDGES.due("as many as there is room for", x.wants(), 4);
        EDGES.due("it is empty", x.count(4), 0);
    }

    private static void wantsNot() {
        EDGES.sentence(9, "NOT: a FAULT.");
        PedlarPack x = new PedlarPack();
        EDGES.due("an empty LINE", x.wants(), Edges.NOT);
        for (String text : new String[] {"x", "1:0=5,5,5;", "1:0=5,5,5;2:0=5,6,5", "1:0=5,5,5x"}) {
            Checks.type(x, text);
            EDGES.due("wants() of " + text, x.wants(), Edges.NOT);
            EDGES.due("the LINE stays", x.wipe(), text.length());
            EDGES.due("the good part ahead is not taken", x.count(3), 0);
        }
    }

    private static void readThreeForEachThing() {
        EDGES.sentence(10, "three items for each THING from 0 on (six at most)");
        PedlarPack x = new PedlarPack();
        int[] items = new int[40];
        java.util.Arrays.fill(items, 1);
        Checks.lay(x, 0, items);
        EDGES.due("forty items", x.read(0, 7), 6);
        EDGES.due("no other FARM", x.count(3), 18);
        x.sheet(0, 0, 18);
        EDGES.due("eighteen of 0", x.read(0, 7), 6);
        EDGES.due("none again", x.count(3), 0);
        Checks.lay(x, 0, 3, 2, 1, 6, 5, 4);
        EDGES.due("six items", x.read(0, 1), 2);
        EDGES.due("THING 0", x.chance(1, 0, 0) * 100 + x.chance(1, 0, 1) * 10 + x.chance(1, 0, 2), 321);
        EDGES.due("THING 1", x.chance(1, 1, 0) * 100 + x.chance(1, 1, 1) * 10 + x.chance(1, 1, 2), 654);
    }

    private static void readWhatIsWhole() {
        EDGES.sentence(10, "as many as are whole");
        for (int size = 0; size <= 21; size++) {
            PedlarPack x = new PedlarPack();
            int[] items = new int[size];
            java.util.Arrays.fill(items, 9);
            Checks.lay(x, 0, items);
            int whole = Math.min(size / 3, 6);
            EDGES.due(size + " items", x.read(0, 1), whole);
            EDGES.due("what was taken of " + size, x.count(3), 3 * whole);
        }
    }

    private static void readUpToWhatMayNotBe() {
        EDGES.sentence(10, "up to the first three that may not be CHANCES (0 to 16, none more than the one ahead): how many THINGS.");
        int[][] not = {{17, 0, 0}, {16, 17, 0}, {16, 16, 17}, {-1, 0, 0}, {0, -1, 0}, {0, 0, -1}, {5, 6, 0}, {5, 4, 5}, {0, 0, 1},
            {Edges.MOST, 0, 0}, {0, 0, Edges.LEAST}, {Edges.LEAST, Edges.LEAST, Edges.LEAST}};
        for (int[] three : not) {
            PedlarPack x = new PedlarPack();
            Checks.lay(x, 0, 1, 1, 1, three[0], three[1], three[2], 1, 1, 1);
            String text = three[0] + ", " + three[1] + ", " + three[2];
            EDGES.due("up to " + text, x.read(0, 1), 1);
            EDGES.all("taken are those ahead of " + text, 3, x.count(3), x.chance(1, 0, 0) + x.chance(1, 0, 1) + x.chance(1, 0, 2));
            Checks.lay(x, 0, three);
            EDGES.due("from the first on " + text, x.read(0, 2), 0);
        }
        PedlarPack x = new PedlarPack();
        Checks.lay(x, 0, 16, 16, 16, 16, 0, 0, 0, 0, 0, 7, 7, 0);
        EDGES.due("those that may be", x.read(0, 1), 4);
        x.sheet(0, 0, 3);
        x.put(0, 0, 0, 255);
        EDGES.due("a byte of 255 is -1", x.read(0, 1), 0);
    }

    private static void readBad() {
        EDGES.sentence(10, "BAD; NULL.");
        PedlarPack x = new PedlarPack();
        x.sheet(0, 2, 3);
        EDGES.all("no such SHEET", Edges.BAD, x.read(-1, 1), x.read(4, 1), x.read(Edges.LEAST, 1), x.read(Edges.MOST, 1));
        EDGES.all("no such FARM", Edges.BAD, x.read(0, 0), x.read(0, 8), x.read(0, Edges.LEAST), x.read(0, Edges.MOST));
        EDGES.all("no such FARM, by a LOST one", Edges.BAD, x.read(1, 0), x.read(1, 8));
        EDGES.due("BAD is no FINDING", x.count(8), 0);
        EDGES.all("at the ends", 1, x.read(0, 1), x.read(0, 7));
    }

    private static void readNull() {
        EDGES.sentence(10, "NULL.");
        PedlarPack x = with("1:0=5,5,5");
        for (int s = 0; s < 4; s++) {
            EDGES.due("a LOST SHEET", x.read(s, 1), Edges.NULL);
        }
        EDGES.due("the FINDING", x.count(8), 1);
        EDGES.due("WANTS stay", x.chance(1, 0, 2), 5);
    }

    private static void chanceLessTheShop() {
        EDGES.sentence(11, "The CHANCE of a THING at a FARM at a LEVEL, less what a SHOP takes.");
        PedlarPack x = with("7:5=16,9,1");
        EDGES.due("without", x.chance(7, 5, 0) * 10000 + x.chance(7, 5, 1) * 100 + x.chance(7, 5, 2), 160901);
        x.shop(5, 1);
        EDGES.due("one less", x.chance(7, 5, 0) * 10000 + x.chance(7, 5, 1) * 100 + x.chance(7, 5, 2), 150800);
        x.shop(5, 15);
        EDGES.due("never below 0", x.chance(7, 5, 0) * 10000 + x.chance(7, 5, 1) * 100 + x.chance(7, 5, 2), 10000);
        x.shop(5, 16);
        EDGES.all("all gone", 0, x.chance(7, 5, 0), x.chance(7, 5, 1), x.chance(7, 5, 2), x.chance(1, 5, 0));
    }

    private static void chanceBad() {
        EDGES.sentence(11, "BAD.");
        PedlarPack x = with("1:0=5,5,5;7:5=5,5,5");
        for (int none : new int[] {-1, 8, Edges.LEAST, Edges.MOST}) {
            EDGES.all("with " + none, Edges.BAD, x.chance(none, 0, 0), x.chance(1, none, 0), x.chance(1, 0, none));
        }
        EDGES.all("FARM 0, THING 6, LEVEL 3", Edges.BAD, x.chance(0, 0, 0), x.chance(1, 6, 0), x.chance(1, 0, 3));
        EDGES.all("at the ends", 5, x.chance(1, 0, 0), x.chance(7, 5, 2));
    }

    private static void shopTellsWhatItWas() {
        EDGES.sentence(12, "What a SHOP takes of a THING: what it was.");
        PedlarPack x = new PedlarPack();
        for (int thing = 0; thing < 6; thing++) {
            EDGES.due("at first", x.shop(thing, 16), 0);
            EDGES.due("the most", x.shop(thing, thing), 16);
            EDGES.due("refused", x.shop(thing, 17), Edges.BAD);
        }
        for (int thing = 0; thing < 6; thing++) {
            EDGES.due("each its own", x.shop(thing, 0), thing);
        }
    }

    private static void shopBad() {
        EDGES.sentence(12, "BAD.");
        PedlarPack x = new PedlarPack();
        EDGES.all("no such THING", Edges.BAD, x.shop(-1, 0), x.shop(6, 0), x.shop(Edges.LEAST, 0), x.shop(Edges.MOST, 0));
        EDGES.all("no such number", Edges.BAD, x.shop(0, -1), x.shop(5, 17), x.shop(0, Edges.LEAST), x.shop(5, Edges.MOST));
    }
}
