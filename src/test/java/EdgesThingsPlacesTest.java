/** Boundary cases of things and places: promises 1 to 5 and what the terms say of them. */
public final class EdgesThingsPlacesTest {
    private static final Edges EDGES = new Edges();

    public static void main(String[] args) {
        constants();
        thingsAre0To5();
        cost();
        weight();
        loss();
        lossMayBeMoreThanCost();
        prices();
        pricesNoneLessThanTheOneAhead();
        atFirst();
        callsToTheLast();
        placesAre0To7();
        roadsTakeHours();
        noRoadAtFirst();
        wayIsTheQuickest();
        noWay();
        day();
        limit();
        newHasNoRoads();
        newHasNoWants();
        newHasLostSheets();
        figuresOfAThing();
        thingTellsWhatItWas();
        priceBetweenItsNeighbours();
        roadTellsWhatItTook();
        roadGoesBothWays();
        roadToItself();
        wayBad();
        wayToItself();
        openFarms();
        setTellsWhatItWas();
        setBad();
        EDGES.end(1, 5);
    }

    private static void constants() {
        EDGES.sentence(0, "public static final int NONE = -1, BAD = -2, NOT = -3, FULL = -4;");
        EDGES.due("NONE", PedlarPack.NONE, -1);
        EDGES.due("BAD", PedlarPack.BAD, -2);
        EDGES.due("NOT", PedlarPack.NOT, -3);
        EDGES.due("FULL", PedlarPack.FULL, -4);
    }

    private static void thingsAre0To5() {
        EDGES.sentence(0, "THINGS are 0 to 5");
        PedlarPack x = new PedlarPack();
        Checks.row(x, 1);
        for (int none : new int[] {-1, 6, 7, Edges.LEAST, Edges.MOST}) {
            EDGES.all("thing, chance, shop, ask, trust of " + none, Edges.BAD, x.thing(none, 0, 1), x.chance(1, none, 0), x.shop(none, 0),
                    x.ask(none, 0, 1), x.trust(none, 0, 1, 0, 0));
            EDGES.all("sold, value, brings of " + none, Checks.LONG_BAD, x.sold(none, 1, 0, 0, 0), x.value(none, 0, 1, 0), x.brings(none, 0));
        }
        for (int thing : new int[] {0, 5}) {
            EDGES.all("thing, sold, value of " + thing, 1, x.thing(thing, 0, 1), x.sold(thing, 1, 0, 0, 0), x.value(thing, 0, 1, 0));
            EDGES.all("chance, shop, ask, best, loaded, trust, brings of " + thing, 0, x.chance(1, thing, 0), x.shop(thing, 0),
                    x.ask(thing, 0, 1), x.best(thing), x.loaded(thing), x.trust(thing, 0, 1, 0, 0), x.brings(thing, 0));
        }
    }

    /** A figure of a THING takes what is from least to most, and no more. */
    private static void figure(int what, int first, int least, int most) {
        for (int thing = 0; thing < 6; thing++) {
            PedlarPack x = new PedlarPack();
            EDGES.all("too small", Edges.BAD, x.thing(thing, what, least - 1), x.thing(thing, what, -1), x.thing(thing, what, Edges.LEAST));
            EDGES.all("too large", Edges.BAD, x.thing(thing, what, most + 1), x.thing(thing, what, Edges.MOST));
            EDGES.due("the least", x.thing(thing, what, least), first);
            EDGES.due("the most", x.thing(thing, what, most), least);
            EDGES.due("once more", x.thing(thing, what, most), most);
        }
    }

    private static void cost() {
        EDGES.sentence(0, "a COST (0 to 99)");
        figure(0, 1, 0, 99);
    }

    private static void weight() {
        EDGES.sentence(0, "a WEIGHT (1 to 20)");
        figure(1, 1, 1, 20);
    }

    private static void loss() {
        EDGES.sentence(0, "a LOSS (0 to 99:");
        figure(2, 0, 0, 99);
    }

    private static void lossMayBeMoreThanCost() {
        EDGES.sentence(0, "what one that comes home again is worth less than its COST)");
        PedlarPack x = new PedlarPack();
        EDGES.due("no LOSS", x.value(0, 0, 1, 0), 1);
        x.thing(0, 2, 1);
        EDGES.due("as much as its COST", x.value(0, 0, 1, 0), 0);
        x.thing(0, 2, 99);
        EDGES.due("the most", x.value(0, 0, 1, 0), -98);
        x.thing(0, 0, 0);
        EDGES.due("the most, of no COST", x.value(0, 0, 4, 0), -396);
        x.thing(0, 0, 99);
        EDGES.due("all of it", x.value(0, 0, 1, 0), 0);
    }

    private static void prices() {
        EDGES.sentence(0, "PRICES at LEVELS 0, 1, 2 (0 to 99,");
        PedlarPack x = new PedlarPack();
        EDGES.all("above 99", Edges.BAD, x.thing(0, 5, 100), x.thing(0, 5, Edges.MOST));
        EDGES.due("LEVEL 2 at most", x.thing(0, 5, 99), 4);
        EDGES.due("LEVEL 1 at most", x.thing(0, 4, 99), 3);
        EDGES.due("LEVEL 0 at most", x.thing(0, 3, 99), 2);
        EDGES.all("above 99 with the one behind at 99", Edges.BAD, x.thing(0, 3, 100), x.thing(0, 4, 100));
        EDGES.all("below 0", Edges.BAD, x.thing(1, 3, -1), x.thing(1, 3, Edges.LEAST));
        EDGES.due("LEVEL 0 at least", x.thing(1, 3, 0), 2);
        EDGES.due("LEVEL 1 at least", x.thing(1, 4, 0), 3);
        EDGES.due("LEVEL 2 at least", x.thing(1, 5, 0), 4);
        EDGES.all("below 0 with the one ahead at 0", Edges.BAD, x.thing(1, 4, -1), x.thing(1, 5, -1));
        EDGES.all("no LEVEL", Edges.BAD, x.chance(1, 0, -1), x.chance(1, 0, 3));
    }

    private static void pricesNoneLessThanTheOneAhead() {
        EDGES.sentence(0, "none less than the one ahead); at first COST 1");
        PedlarPack x = new PedlarPack();
        EDGES.all("2, 1, 4 and 2, 3, 2", Edges.BAD, x.thing(0, 4, 1), x.thing(0, 5, 2));
        EDGES.due("3, 3, 4", x.thing(0, 3, 3), 2);
        EDGES.due("3, 3, 3", x.thing(0, 5, 3), 4);
        EDGES.all("none of them may pass another", Edges.BAD, x.thing(0, 3, 4), x.thing(0, 4, 2), x.thing(0, 4, 4), x.thing(0, 5, 2));
    }

    private static void atFirst() {
        EDGES.sentence(0, "at first COST 1, WEIGHT 1, LOSS 0, PRICES 2, 3, 4.");
        int[] first = {1, 1, 0, 2, 3, 4};
        PedlarPack x = new PedlarPack();
        for (int thing = 0; thing < 6; thing++) {
            for (int what = 0; what < 6; what++) {
                EDGES.due("thing(" + thing + ", " + what + ", ..)", x.thing(thing, what, first[what]), first[what]);
            }
        }
    }

    private static void callsToTheLast() {
        EDGES.sentence(0, "An object is used for at most 512 calls");
        PedlarPack x = new PedlarPack();
        for (int call = 1; call <= 511; call++) {
            EDGES.due("call " + call, x.shop(0, call % 17), call == 1 ? 0 : (call - 1) % 17);
        }
        EDGES.due("call 512", x.shop(0, 0), 511 % 17);
    }

    private static void placesAre0To7() {
        EDGES.sentence(0, "PLACES are HOME (0) and FARMS 1 to 7.");
        PedlarPack x = new PedlarPack();
        x.set(2, 31);
        x.sheet(0, 0, 0);
        for (int none : new int[] {-1, 8, Edges.LEAST, Edges.MOST}) {
            EDGES.all("no PLACE " + none, Edges.BAD, x.road(none, 1, 1), x.road(1, none, 1), x.way(none, 1), x.way(1, none), x.onward(none, 0));
            EDGES.all("no FARM " + none, Edges.BAD, x.chance(none, 0, 0), x.read(0, none));
        }
        EDGES.all("HOME is no FARM", Edges.BAD, x.chance(0, 0, 0), x.read(0, 0));
        EDGES.due("HOME in a ROW", Checks.row(x, 0), Edges.NOT);
        EDGES.due("8 in a ROW", Checks.row(x, 8), Edges.NOT);
        for (int farm : new int[] {1, 7}) {
            EDGES.all("FARM " + farm, 0, x.road(0, farm, 1), x.chance(farm, 0, 0), x.read(0, farm));
            EDGES.due("the ROW of it", Checks.row(x, farm), 1);
        }
        EDGES.all("HOME is a PLACE", 1, x.way(0, 7), x.way(1, 0));
    }

    private static void roadsTakeHours() {
        EDGES.sentence(0, "ROADS between two PLACES take HOURS (1 to 60;");
        PedlarPack x = new PedlarPack();
        EDGES.all("too small, too large", Edges.BAD, x.road(0, 1, -1), x.road(0, 1, 61), x.road(0, 1, Edges.LEAST), x.road(0, 1, Edges.MOST));
        EDGES.due("the least", x.road(0, 1, 1), 0);
        EDGES.due("the most", x.road(0, 1, 60), 1);
        EDGES.due("as told", x.way(0, 1), 60);
    }

    private static void noRoadAtFirst() {
        EDGES.sentence(0, "0: there is none, at first)");
        PedlarPack x = new PedlarPack();
        for (int a = 0; a < 8; a++) {
            for (int b = 0; b < a; b++) {
                EDGES.due("road(" + a + ", " + b + ", 0) at first", x.road(a, b, 0), 0);
            }
        }
        EDGES.due("there are none", x.count(2), 0);
        x.road(2, 3, 5);
        EDGES.due("taken away", x.road(2, 3, 0), 5);
        EDGES.all("there is none again", 0, x.count(2), x.road(3, 2, 0));
        EDGES.due("nor a WAY", x.way(2, 3), 1000);
    }

    private static void wayIsTheQuickest() {
        EDGES.sentence(0, "the WAY between two PLACES is the quickest by ROADS");
        PedlarPack x = new PedlarPack();
        x.road(0, 1, 10);
        x.road(1, 2, 10);
        x.road(0, 2, 21);
        EDGES.due("round is quicker", x.way(0, 2), 20);
        x.road(0, 2, 20);
        EDGES.due("both are alike", x.way(2, 0), 20);
        x.road(0, 2, 19);
        EDGES.due("straight is quicker", x.way(0, 2), 19);
        for (int farm = 3; farm <= 7; farm++) {
            x.road(farm - 1, farm, 60);
        }
        x.road(1, 2, 60);
        x.road(0, 1, 60);
        x.road(0, 2, 0);
        EDGES.due("the longest there can be", x.way(0, 7), 420);
        x.road(7, 0, 60);
        EDGES.due("the other way about", x.way(1, 7), 120);
    }

    private static void noWay() {
        EDGES.sentence(0, "(1000: there is none)");
        PedlarPack x = new PedlarPack();
        x.road(1, 2, 1);
        x.road(3, 4, 1);
        EDGES.all("between two parts", 1000, x.way(1, 3), x.way(4, 2), x.way(0, 1), x.way(2, 0), x.way(5, 6));
        EDGES.all("within each", 1, x.way(2, 1), x.way(3, 4));
    }

    private static void day() {
        EDGES.sentence(0, "A DAY has HOURS (1 to 200; 60 at first)");
        PedlarPack x = new PedlarPack();
        EDGES.due("at first", x.count(5), 60);
        EDGES.all("too small, too large", Edges.BAD, x.set(0, 0), x.set(0, -1), x.set(0, 201), x.set(0, Edges.LEAST), x.set(0, Edges.MOST));
        EDGES.due("the least", x.set(0, 1), 60);
        EDGES.due("the most", x.set(0, 200), 1);
        EDGES.due("then", x.count(5), 200);
    }

    private static void limit() {
        EDGES.sentence(0, "the PACK a LIMIT (1 to 100; 20 at first)");
        PedlarPack x = new PedlarPack();
        EDGES.due("at first", x.count(6), 20);
        EDGES.all("too small, too large", Edges.BAD, x.set(1, 0), x.set(1, -1), x.set(1, 101), x.set(1, Edges.LEAST), x.set(1, Edges.MOST));
        EDGES.due("the least", x.set(1, 1), 20);
        EDGES.due("the most", x.set(1, 100), 1);
        EDGES.due("then", x.count(6), 100);
    }

    private static void newHasNoRoads() {
        EDGES.sentence(1, "No ROADS,");
        PedlarPack x = new PedlarPack();
        EDGES.due("count(2)", x.count(2), 0);
        EDGES.all("way()", 1000, x.way(0, 1), x.way(6, 7), x.way(7, 0));
        EDGES.all("another object's ROADS are its own", 0, new PedlarPack().road(0, 1, 5), new PedlarPack().road(0, 1, 6));
    }

    private static void newHasNoWants() {
        EDGES.sentence(1, "no WANTS;");
        PedlarPack x = new PedlarPack();
        EDGES.due("count(3)", x.count(3), 0);
        for (int farm = 1; farm <= 7; farm++) {
            for (int thing = 0; thing < 6; thing++) {
                EDGES.all("chance(" + farm + ", " + thing + ", ..)", 0, x.chance(farm, thing, 0), x.chance(farm, thing, 1), x.chance(farm, thing, 2));
            }
        }
    }

    private static void newHasLostSheets() {
        EDGES.sentence(1, "all SHEETS are LOST.");
        for (int s = 0; s < 4; s++) {
            PedlarPack x = new PedlarPack();
            EDGES.due("no FINDING yet", x.count(8), 0);
            EDGES.all("of " + s, Edges.NULL, x.lose(s), x.row(s), x.pack(s), x.read(s, 1), x.write(s), x.put(s, 0, 0, 0), x.copy(s, 0, s, 0, 0));
        }
    }

    private static void figuresOfAThing() {
        EDGES.sentence(2, "COST (what = 0), WEIGHT (1), LOSS (2), PRICE at LEVEL 0 (3), 1 (4), 2 (5) of a THING");
        PedlarPack x = new PedlarPack();
        for (int none : new int[] {-1, 6, 7, Edges.LEAST, Edges.MOST}) {
            EDGES.all("no such figure: " + none, Edges.BAD, x.thing(0, none, 0), x.thing(0, none, 1), x.thing(5, none, 99));
        }
        x.thing(5, 0, 70);
        x.thing(5, 2, 50);
        EDGES.due("COST 70, LOSS 50", x.value(5, 0, 1, 0), 20);
        x.thing(5, 1, 7);
        EDGES.due("WEIGHT 7", Checks.pack(x, 0, 0, 0, 0, 0, 3), 21);
        x.thing(5, 5, 96);
        x.thing(5, 4, 95);
        x.thing(5, 3, 94);
        Checks.row(x, 1);
        Checks.wants(x, "1:5=16,0,0");
        EDGES.due("PRICE at LEVEL 0", x.value(5, 0, 1, 0), 94);
        Checks.wants(x, "1:5=16,16,0");
        EDGES.due("PRICE at LEVEL 1", x.value(5, 0, 1, 0), 95);
        Checks.wants(x, "1:5=16,16,16");
        EDGES.due("PRICE at LEVEL 2", x.value(5, 0, 1, 0), 96);
    }

    private static void thingTellsWhatItWas() {
        EDGES.sentence(2, "what it was.");
        PedlarPack x = new PedlarPack();
        x.thing(3, 0, 0);
        EDGES.due("of 0", x.thing(3, 0, 99), 0);
        EDGES.due("of 99", x.thing(3, 0, 99), 99);
        EDGES.due("a refused one is not told", x.thing(3, 0, 100), Edges.BAD);
        EDGES.due("nor kept", x.thing(3, 0, 7), 99);
        EDGES.all("of another THING", 1, x.thing(2, 0, 1), x.thing(4, 0, 1));
    }

    private static void priceBetweenItsNeighbours() {
        EDGES.sentence(2, "BAD: also a PRICE less than the one ahead, or more than the one behind.");
        PedlarPack x = new PedlarPack();
        Checks.thing(x, 0, 50, 20, 60, 10, 20, 30);
        EDGES.all("less than the one ahead", Edges.BAD, x.thing(0, 4, 9), x.thing(0, 5, 19));
        EDGES.all("more than the one behind", Edges.BAD, x.thing(0, 3, 21), x.thing(0, 4, 31));
        EDGES.due("like the one behind", x.thing(0, 4, 30), 20);
        EDGES.due("like the one ahead", x.thing(0, 4, 10), 30);
        EDGES.due("like the one behind", x.thing(0, 3, 10), 10);
        EDGES.due("like the one ahead", x.thing(0, 5, 10), 30);
        EDGES.due("LEVEL 0 is not held by LOSS", x.thing(0, 3, 0), 10);
        EDGES.due("LOSS is not held by PRICES", x.thing(0, 2, 99), 60);
        EDGES.due("nor is COST", x.thing(0, 0, 99), 50);
    }

    private static void roadTellsWhatItTook() {
        EDGES.sentence(3, "A ROAD between two PLACES takes HOURS: what it took.");
        PedlarPack x = new PedlarPack();
        EDGES.due("none", x.road(6, 7, 60), 0);
        EDGES.due("60", x.road(6, 7, 60), 60);
        EDGES.due("a refused one is not told", x.road(6, 7, 61), Edges.BAD);
        EDGES.due("nor kept", x.road(6, 7, 0), 60);
        EDGES.due("none again", x.road(6, 7, 1), 0);
        x.road(6, 5, 1);
        EDGES.due("not what the WAY takes", x.road(5, 7, 3), 0);
    }

    private static void roadGoesBothWays() {
        EDGES.sentence(3, "A ROAD between two PLACES");
        PedlarPack x = new PedlarPack();
        x.road(7, 0, 9);
        EDGES.due("from the other end", x.road(0, 7, 8), 9);
        EDGES.due("and back", x.road(7, 0, 8), 8);
        EDGES.due("it is one", x.count(2), 1);
    }

    private static void roadToItself() {
        EDGES.sentence(3, "BAD: also a PLACE with itself.");
        PedlarPack x = new PedlarPack();
        for (int place = 0; place < 8; place++) {
            EDGES.all("road(" + place + ", " + place + ", ..)", Edges.BAD, x.road(place, place, 1), x.road(place, place, 0));
        }
        EDGES.due("none was made", x.count(2), 0);
    }

    private static void wayBad() {
        EDGES.sentence(4, "The WAY between two PLACES. BAD.");
        PedlarPack x = new PedlarPack();
        for (int place = 0; place < 8; place++) {
            EDGES.all("with " + place, Edges.BAD, x.way(place, -1), x.way(place, 8), x.way(-1, place), x.way(8, place));
        }
        EDGES.all("wild", Edges.BAD, x.way(-1, -1), x.way(8, 8), x.way(Edges.LEAST, 0), x.way(0, Edges.MOST));
        EDGES.all("at the ends", 1000, x.way(0, 7), x.way(7, 0));
    }

    private static void wayToItself() {
        EDGES.sentence(4, "The WAY between two PLACES.");
        PedlarPack x = new PedlarPack();
        for (int place = 0; place < 8; place++) {
            EDGES.due("from a PLACE to itself", x.way(place, place), 0);
        }
    }

    private static void openFarms() {
        EDGES.sentence(5, "OPEN FARMS (2; bit 0 is FARM 1; all at first)");
        PedlarPack x = new PedlarPack();
        EDGES.due("all at first", x.count(7), 127);
        EDGES.all("too small, too large", Edges.BAD, x.set(2, -1), x.set(2, 128), x.set(2, 255), x.set(2, Edges.LEAST), x.set(2, Edges.MOST));
        EDGES.due("none", x.set(2, 0), 127);
        EDGES.due("all", x.set(2, 127), 0);
        for (int farm = 1; farm <= 7; farm++) {
            x.road(0, farm, 1);
            Checks.wants(x, farm + ":0=16,16,16");
        }
        x.set(2, 1);
        EDGES.due("bit 0", x.round(0), 1);
        x.set(2, 64);
        EDGES.due("bit 6", x.round(0), 7);
    }

    private static void setTellsWhatItWas() {
        EDGES.sentence(5, "HOURS of a DAY (what = 0), LIMIT (1), OPEN FARMS (2;");
        PedlarPack x = new PedlarPack();
        int[] first = {60, 20, 127};
        for (int what = 0; what < 3; what++) {
            EDGES.due("set(" + what + ", 3)", x.set(what, 3), first[what]);
            EDGES.due("once more", x.set(what, 3), 3);
            EDGES.due("refused", x.set(what, 201), Edges.BAD);
            EDGES.due("as it was", x.set(what, 4), 3);
        }
        EDGES.all("each is its own", 4, x.count(5), x.count(6), x.count(7));
    }

    private static void setBad() {
        EDGES.sentence(5, "what it was. BAD.");
        PedlarPack x = new PedlarPack();
        EDGES.all("no such what", Edges.BAD, x.set(-1, 1), x.set(3, 1), x.set(Edges.LEAST, 1), x.set(Edges.MOST, 1));
        EDGES.all("each with its own most", Edges.BAD, x.set(1, 101), x.set(2, 200), x.set(0, 201));
        EDGES.due("HOURS above the LIMIT's most", x.set(0, 101), 60);
        EDGES.due("OPEN FARMS above it", x.set(2, 101), 127);
    }
}
