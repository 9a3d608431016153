/** Boundary cases of what is asked well: promises 18 to 23 and what the terms say of them. */
public final class EdgesAskedWellTest {
    private static final Edges EDGES = new Edges();

    public static void main(String[] args) {
        nothingIsShown();
        likeLevels();
        whatIsStillToCome();
        whatIsLeftAtTheEnd();
        valueFromTheFarmOn();
        gainLessTheCost();
        bestNotHeavier();
        bestLeastInWeight();
        bestLeastRow();
        loadedFromNothing();
        loadedFewerThanFour();
        loadedAgainAndAgain();
        loadedMostByWeight();
        loadedAboveNothing();
        loadedNotTooHeavy();
        loadedLikeOnes();
        boundStepByStep();
        boundAboveNothing();
        boundMostFirst();
        boundTillFull();
        boundPartOfTheLast();
        askWithKLeft();
        askThree();
        askNoSuchFarm();
        askBad();
        valueBehindAll();
        valueOfNone();
        valueBad();
        valueRefusal();
        gainTerms();
        gainBad();
        bestWeight();
        bestBad();
        loadWhich();
        loadBad();
        loadedWeight();
        loadedBad();
        EDGES.end(18, 23);
    }

    private static PedlarPack with(String wants, int... row) {
        PedlarPack x = new PedlarPack();
        Checks.wants(x, wants);
        Checks.row(x, row);
        return x;
    }

    /** A THING with one PRICE, no LOSS, bought for sure at FARM 1. */
    private static void sure(PedlarPack x, int thing, int cost, int weight, int price) {
        Checks.thing(x, thing, cost, weight, 0, price, price, price);
        Checks.wants(x, "1:" + thing + "=16,16,16");
    }

    private static void due(String what, PedlarPack x, int[] best, int[] loaded) {
        for (int thing = 0; thing < best.length; thing++) {
            EDGES.due(what + ": best(" + thing + ")", x.best(thing), best[thing]);
        }
        for (int thing = 0; thing < loaded.length; thing++) {
            EDGES.due(what + ": loaded(" + thing + ")", x.loaded(thing), loaded[thing]);
        }
    }

    private static void bound(String what, PedlarPack x, int limit, long above, long below) {
        x.set(1, limit);
        EDGES.fraction(what + ", LIMIT " + limit, x.load(2, 0), x.load(2, 1), above, below);
    }

    private static void nothingIsShown() {
        EDGES.sentence(0, "that LEVEL (or none: 3, nothing is shown)");
        PedlarPack x = with("1:0=16,16,16", 1);
        Checks.thing(x, 0, 50, 1, 0, 10, 20, 49);
        for (int k = 1; k <= 4; k++) {
            EDGES.due("each PRICE is less than what comes home", x.ask(0, 0, k), 3);
            EDGES.due("so it comes home", x.value(0, 0, k, 0), 50 * k);
        }
        x.thing(0, 5, 51);
        EDGES.due("one PRICE is more", x.ask(0, 0, 1), 2);
    }

    private static void likeLevels() {
        EDGES.sentence(0, "the mean is most, of like ones the least (3 last).");
        PedlarPack x = with("1:0=16,16,16;1:1=16,8,4;2:0=8,8,8", 1, 2);
        EDGES.due("no WANTS, all like 3", x.ask(5, 0, 1), 0);
        Checks.row(x, 1);
        Checks.thing(x, 0, 30, 1, 0, 10, 20, 30);
        EDGES.due("2 like 3", x.ask(0, 0, 1), 2);
        x.thing(0, 4, 30);
        EDGES.due("1, 2 like 3", x.ask(0, 0, 1), 1);
        x.thing(0, 3, 30);
        EDGES.due("0, 1, 2 like 3", x.ask(0, 0, 1), 0);
        x.thing(0, 0, 31);
        EDGES.due("3 is more", x.ask(0, 0, 1), 3);
        Checks.thing(x, 1, 0, 1, 0, 10, 20, 40);
        EDGES.due("0, 1, 2 alike", x.ask(1, 0, 1), 0);
        x.thing(1, 3, 9);
        EDGES.due("1, 2 alike", x.ask(1, 0, 1), 1);
        x.thing(1, 4, 19);
        EDGES.due("2 alone", x.ask(1, 0, 1), 2);
    }

    private static void whatIsStillToCome() {
        EDGES.sentence(0, "by what is left and what is still to come");
        PedlarPack x = with("1:0=16,4,0;2:0=16,0,0", 1, 2);
        Checks.thing(x, 0, 0, 1, 0, 8, 16, 16);
        EDGES.due("one left, a sure FARM to come: 8, or 4 and 6", x.ask(0, 0, 1), 1);
        EDGES.due("two left: 16, or 4 and 8", x.ask(0, 0, 2), 0);
        EDGES.due("nothing to come", x.ask(0, 1, 1), 0);
        Checks.row(x, 1);
        EDGES.due("nothing to come at the first", x.ask(0, 0, 1), 0);
    }

    private static void whatIsLeftAtTheEnd() {
        EDGES.sentence(0, "What is left at the end is worth its COST less its LOSS each (that may be below 0).");
        PedlarPack x = new PedlarPack();
        Checks.thing(x, 0, 99, 1, 0, 0, 0, 0);
        Checks.thing(x, 1, 0, 1, 99, 0, 0, 0);
        Checks.thing(x, 2, 40, 1, 40, 0, 0, 0);
        Checks.thing(x, 3, 40, 1, 41, 0, 0, 0);
        for (int k = 0; k <= 4; k++) {
            EDGES.fraction(k + " of COST 99", x.value(0, 0, k, 0), x.value(0, 0, k, 1), 99 * k, 1);
            EDGES.fraction(k + " of LOSS 99", x.value(1, 0, k, 0), x.value(1, 0, k, 1), -99 * k, 1);
            EDGES.fraction(k + " of COST and LOSS alike", x.value(2, 0, k, 0), x.value(2, 0, k, 1), 0, 1);
            EDGES.fraction(k + " of one more LOSS", x.value(3, 0, k, 0), x.value(3, 0, k, 1), -k, 1);
        }
        Checks.row(x, 1);
        Checks.wants(x, "1:1=16,16,16");
        EDGES.due("given away, so that it does not come home", x.value(1, 0, 1, 0), 0);
        EDGES.due("and three come home", x.value(1, 0, 4, 0), -297);
    }

    private static void valueFromTheFarmOn() {
        EDGES.sentence(0, "VALUE of k of a THING from the i-th FARM of a ROW on: that mean.");
        PedlarPack x = with("1:0=8,8,8;2:0=8,8,8;3:0=8,8,8", 1, 2, 3);
        Checks.thing(x, 0, 0, 1, 0, 16, 16, 16);
        EDGES.fraction("one, from the first on", x.value(0, 0, 1, 0), x.value(0, 0, 1, 1), 14, 1);
        EDGES.fraction("one, from the second on", x.value(0, 1, 1, 0), x.value(0, 1, 1, 1), 12, 1);
        EDGES.fraction("one, from the last on", x.value(0, 2, 1, 0), x.value(0, 2, 1, 1), 8, 1);
        EDGES.fraction("one, behind all", x.value(0, 3, 1, 0), x.value(0, 3, 1, 1), 0, 1);
        EDGES.fraction("as many as FARMS", x.value(0, 0, 3, 0), x.value(0, 0, 3, 1), 24, 1);
        EDGES.fraction("more than FARMS", x.value(0, 0, 4, 0), x.value(0, 0, 4, 1), 24, 1);
    }

    private static void gainLessTheCost() {
        EDGES.sentence(0, "GAIN of a PACK along a ROW: VALUES of all its THINGS from the first FARM on, less what they COST.");
        PedlarPack x = new PedlarPack();
        EDGES.fraction("no PACK, no ROW", x.gain(0), x.gain(1), 0, 1);
        for (int thing = 0; thing < 6; thing++) {
            Checks.thing(x, thing, 99, 20, 99, 0, 0, 0);
        }
        Checks.pack(x, 4, 4, 4, 4, 4, 4);
        EDGES.fraction("the least there can be", x.gain(0), x.gain(1), -24 * 99, 1);
        for (int thing = 0; thing < 6; thing++) {
            x.thing(thing, 2, 0);
        }
        EDGES.fraction("all comes home without LOSS", x.gain(0), x.gain(1), 0, 1);
        Checks.thing(x, 5, 0, 20, 99, 99, 99, 99);
        Checks.wants(x, "1:5=16,16,16;2:5=16,16,16;3:5=16,16,16;4:5=16,16,16");
        Checks.row(x, 1, 2, 3, 4);
        EDGES.fraction("four of one sold, though the PACK is too heavy", x.gain(0), x.gain(1), 396, 1);
        Checks.row(x, 1, 2, 3);
        EDGES.fraction("three sold, one comes home", x.gain(0), x.gain(1), 198, 1);
    }

    private static void bestNotHeavier() {
        EDGES.sentence(0, "BEST PACK for a ROW: of all that are not heavier than the LIMIT the one with the most GAIN");
        PedlarPack x = with("1:0=16,16,16;2:0=16,16,16;3:0=16,16,16;4:0=16,16,16", 1, 2, 3, 4);
        x.thing(0, 1, 5);
        int[][] limits = {{4, 0}, {5, 1}, {9, 1}, {10, 2}, {14, 2}, {15, 3}, {19, 3}, {20, 4}, {21, 4}, {100, 4}};
        for (int[] limit : limits) {
            x.set(1, limit[0]);
            EDGES.due("LIMIT " + limit[0], x.best(0), limit[1]);
            EDGES.due("its GAIN with LIMIT " + limit[0], x.load(0, 0), 3 * limit[1]);
        }
        x.thing(0, 1, 20);
        x.set(1, 80);
        EDGES.due("80 of 80", x.best(0), 4);
        x.set(1, 79);
        EDGES.due("80 of 79", x.best(0), 3);
        x.set(1, 1);
        EDGES.due("none fits", x.best(-1), 0);
        EDGES.due("2 by 16 to the seventh is more than nothing", justAbove().best(0), 1);
        EDGES.due("-2 by 16 to the seventh is less", justBelow().best(0), 0);
    }

    private static void bestLeastInWeight() {
        EDGES.sentence(0, "the most GAIN, of like ones the least in weight");
        PedlarPack x = with("1:5=0,0,0", 1);
        sure(x, 0, 0, 1, 6);
        sure(x, 1, 0, 2, 6);
        x.set(1, 2);
        due("the lighter one, though not the least row", x, new int[] {1, 0}, new int[] {1, 0});
        x.set(1, 3);
        due("both", x, new int[] {1, 1}, new int[] {1, 1});
        Checks.thing(x, 2, 5, 1, 0, 5, 5, 5);
        Checks.wants(x, "1:2=16,16,16");
        due("what brings 0 adds weight alone", x, new int[] {1, 1, 0}, new int[] {1, 1, 0});
        x.set(1, 1);
        sure(x, 0, 6, 1, 6);
        due("nothing at all, where nothing brings more", x, new int[] {0, 0, 0, 0, 0, 0}, new int[] {0, 0, 0, 0, 0, 0});
    }

    private static void bestLeastRow() {
        EDGES.sentence(0, "then the least row (of THING 0 first)");
        PedlarPack x = with("1:5=0,0,0", 1);
        for (int thing = 0; thing < 6; thing++) {
            sure(x, thing, 0, 3, 7);
        }
        x.set(1, 3);
        due("one of six", x, new int[] {0, 0, 0, 0, 0, 1}, new int[] {1, 0, 0, 0, 0, 0});
        x.set(1, 9);
        due("three of six", x, new int[] {0, 0, 0, 1, 1, 1}, new int[] {1, 1, 1, 0, 0, 0});
        x.set(1, 17);
        due("five of six", x, new int[] {0, 1, 1, 1, 1, 1}, new int[] {1, 1, 1, 1, 1, 0});
        Checks.wants(x, "2:0=16,16,16;2:5=16,16,16");
        Checks.row(x, 1, 2);
        x.set(1, 6);
        due("two of the last", x, new int[] {0, 0, 0, 0, 0, 2}, new int[] {2, 0, 0, 0, 0, 0});
    }

    private static void loadedFromNothing() {
        EDGES.sentence(0, "LOADED: from nothing on");
        PedlarPack x = new PedlarPack();
        due("no ROW", x, new int[6], new int[6]);
        Checks.pack(x, 4, 4, 4, 4, 4, 4);
        due("whatever the PACK has", x, new int[6], new int[6]);
        EDGES.due("its weight", x.loaded(-1), 0);
    }

    private static void loadedFewerThanFour() {
        EDGES.sentence(0, "that THING (with fewer than 4) is added");
        PedlarPack x = with("1:0=16,16,16;2:0=16,16,16;3:0=16,16,16;4:0=16,16,16;5:0=16,16,16;1:5=16,16,16", 1, 2, 3, 4, 5);
        x.thing(0, 5, 9);
        due("four of five that would be bought", x, new int[] {4, 0, 0, 0, 0, 1}, new int[] {4, 0, 0, 0, 0, 1});
        x.set(1, 4);
        due("room for four", x, new int[] {4, 0, 0, 0, 0, 0}, new int[] {4, 0, 0, 0, 0, 0});
        x.set(1, 3);
        due("room for three", x, new int[] {3, 0, 0, 0, 0, 0}, new int[] {3, 0, 0, 0, 0, 0});
    }

    private static void loadedAgainAndAgain() {
        EDGES.sentence(0, "from nothing on, again and again that THING");
        PedlarPack x = new PedlarPack();
        for (int thing = 0; thing < 6; thing++) {
            Checks.wants(x, "1:" + thing + "=16,16,16;2:" + thing + "=16,16,16;3:" + thing + "=16,16,16;4:" + thing + "=16,16,16");
        }
        Checks.row(x, 1, 2, 3, 4);
        x.set(1, 100);
        due("till there are four of each", x, new int[] {4, 4, 4, 4, 4, 4}, new int[] {4, 4, 4, 4, 4, 4});
        EDGES.due("their weight", x.loaded(-1), 24);
        x.set(1, 23);
        due("till there is no room", x, new int[] {3, 4, 4, 4, 4, 4}, new int[] {4, 4, 4, 4, 4, 3});
        Checks.row(x, 1);
        due("till none brings more", x, new int[] {1, 1, 1, 1, 1, 1}, new int[] {1, 1, 1, 1, 1, 1});
    }

    private static void loadedMostByWeight() {
        EDGES.sentence(0, "of which one more brings most by its WEIGHT");
        PedlarPack x = with("1:5=0,0,0", 1);
        sure(x, 0, 0, 3, 8);
        sure(x, 1, 0, 5, 14);
        x.set(1, 5);
        due("14 by 5 ahead of 8 by 3", x, new int[] {0, 1}, new int[] {0, 1});
        sure(x, 1, 0, 5, 13);
        due("8 by 3 ahead of 13 by 5", x, new int[] {0, 1}, new int[] {1, 0});
        EDGES.due("so it brings less than the best", x.load(1, 0), 8);
        EDGES.due("the best", x.load(0, 0), 13);
    }

    private static void loadedAboveNothing() {
        EDGES.sentence(0, "brings most by its WEIGHT, above 0,");
        PedlarPack x = with("1:5=0,0,0", 1);
        sure(x, 0, 7, 1, 7);
        EDGES.due("just 0", x.loaded(0), 0);
        x.thing(0, 0, 8);
        EDGES.due("0, as it comes home", x.loaded(0), 0);
        x.thing(0, 2, 5);
        EDGES.due("below 0", x.loaded(0), 0);
        x.thing(0, 0, 6);
        EDGES.due("1 above 0, the second below it", x.loaded(0), 1);
        x.thing(0, 1, 20);
        EDGES.due("1 by 20", x.loaded(0), 1);
        EDGES.due("2 by 16 to the seventh, by 20", justAbove().loaded(0), 1);
        EDGES.due("-2 by 16 to the seventh, by 20", justBelow().loaded(0), 0);
    }

    /** One of THING 0, which WEIGHS 20, brings 2 by 16 to the seventh. */
    private static PedlarPack justAbove() {
        PedlarPack x = with("1:0=10,0,0;2:0=1,1,1;3:0=5,0,0;4:0=3,3,0;5:0=3,0,0;6:0=3,3,0;7:0=7,0,0", 1, 2, 3, 4, 5, 6, 7);
        Checks.thing(x, 0, 12, 20, 51, 14, 31, 39);
        return x;
    }

    /** One of THING 0, which WEIGHS 20, brings 2 by 16 to the seventh less than nothing. */
    private static PedlarPack justBelow() {
        PedlarPack x = with("1:0=7,0,0;2:0=7,0,0;3:0=13,13,0;4:0=2,0,0;5:0=5,5,0;6:0=1,0,0;7:0=3,0,0", 1, 2, 3, 4, 5, 6, 7);
        Checks.thing(x, 0, 5, 20, 76, 6, 10, 52);
        return x;
    }

    private static void loadedNotTooHeavy() {
        EDGES.sentence(0, "and is not too heavy, of like ones");
        PedlarPack x = with("1:5=0,0,0", 1);
        sure(x, 0, 0, 10, 90);
        sure(x, 1, 0, 4, 4);
        x.set(1, 10);
        due("just as heavy as may be", x, new int[] {1, 0}, new int[] {1, 0});
        x.set(1, 9);
        due("too heavy: the next one", x, new int[] {0, 1}, new int[] {0, 1});
        x.set(1, 13);
        due("too heavy with the first", x, new int[] {1, 0}, new int[] {1, 0});
        x.set(1, 14);
        due("room for both", x, new int[] {1, 1}, new int[] {1, 1});
        x.set(1, 3);
        due("neither", x, new int[] {0, 0}, new int[] {0, 0});
    }

    private static void loadedLikeOnes() {
        EDGES.sentence(0, "not too heavy, of like ones the least.");
        PedlarPack x = with("1:5=0,0,0", 1);
        sure(x, 3, 0, 2, 6);
        sure(x, 4, 0, 1, 3);
        sure(x, 5, 0, 3, 9);
        x.set(1, 3);
        due("6 by 2, 3 by 1, 9 by 3", x, new int[] {0, 0, 0, 0, 0, 1}, new int[] {0, 0, 0, 1, 1, 0});
        x.set(1, 2);
        due("room for two", x, new int[] {0, 0, 0, 1, 0, 0}, new int[] {0, 0, 0, 1, 0, 0});
        x.set(1, 1);
        due("room for one", x, new int[] {0, 0, 0, 0, 1, 0}, new int[] {0, 0, 0, 0, 1, 0});
    }

    private static void boundStepByStep() {
        EDGES.sentence(0, "BOUND: all such steps of all THINGS (each the GAIN by one more, of the first, the second, .. of it)");
        PedlarPack x = with("1:2=8,8,8;2:2=8,8,8", 1, 2);
        Checks.thing(x, 2, 0, 3, 0, 16, 16, 16);
        bound("the first, 12", x, 3, 12, 1);
        bound("and a third of the second, 4", x, 4, 40, 3);
        bound("both", x, 6, 16, 1);
        bound("the third and the fourth bring nothing", x, 100, 16, 1);
        Checks.wants(x, "3:2=16,16,16;4:2=16,16,16;5:2=16,16,16");
        Checks.row(x, 3, 4, 5);
        bound("three sure ones", x, 9, 48, 1);
        Checks.wants(x, "1:2=16,16,16;2:2=16,16,16");
        Checks.row(x, 1, 2, 3, 4, 5);
        bound("no fifth", x, 100, 64, 1);
    }

    private static void boundAboveNothing() {
        EDGES.sentence(0, ".. of it) above 0,");
        PedlarPack x = new PedlarPack();
        bound("no ROW", x, 100, 0, 1);
        Checks.row(x, 1);
        Checks.thing(x, 0, 5, 1, 2, 9, 9, 9);
        bound("no WANTS, each step -2", x, 100, 0, 1);
        Checks.wants(x, "1:0=16,16,16");
        bound("4, then -2", x, 100, 4, 1);
        x.thing(0, 0, 9);
        bound("just 0", x, 100, 0, 1);
        bound("2 by 16 to the seventh", justAbove(), 100, 1, 134217728);
        bound("-2 by 16 to the seventh", justBelow(), 100, 0, 1);
    }

    private static void boundMostFirst() {
        EDGES.sentence(0, "by what they bring by WEIGHT, the most first,");
        PedlarPack x = with("1:5=0,0,0", 1);
        sure(x, 0, 0, 7, 10);
        sure(x, 1, 0, 3, 5);
        bound("5 by 3 is first", x, 3, 5, 1);
        bound("and 6 of 7", x, 9, 95, 7);
        bound("all", x, 10, 15, 1);
        sure(x, 1, 0, 3, 4);
        bound("10 by 7 is first", x, 7, 10, 1);
        bound("and 2 of 3", x, 9, 38, 3);
    }

    private static void boundTillFull() {
        EDGES.sentence(0, "are taken till the LIMIT is full,");
        PedlarPack x = with("1:5=0,0,0", 1);
        sure(x, 0, 0, 4, 8);
        sure(x, 1, 0, 4, 4);
        bound("just full", x, 4, 8, 1);
        bound("just full with both", x, 8, 12, 1);
        bound("not full", x, 100, 12, 1);
        bound("a quarter", x, 1, 2, 1);
    }

    private static void boundPartOfTheLast() {
        EDGES.sentence(0, "the last one by as much of it as there is room for: what that brings; a FRACTION.");
        PedlarPack x = with("1:5=0,0,0", 1);
        sure(x, 0, 0, 7, 10);
        bound("all of it", x, 7, 10, 1);
        bound("six of seven", x, 6, 60, 7);
        bound("one of seven", x, 1, 10, 7);
        x.thing(0, 1, 20);
        bound("one of twenty", x, 1, 1, 2);
        Checks.wants(x, "1:0=15,15,15;2:0=15,15,15;3:0=15,15,15;4:0=15,15,15;5:0=15,15,15;6:0=15,15,15;7:0=15,15,15");
        Checks.row(x, 1, 2, 3, 4, 5, 6, 7);
        x.thing(0, 1, 19);
        bound("one of nineteen, of 10 less 10 by 16 to the seventh", x, 1, 268435455L * 5, 19L * 134217728);
    }

    private static void askWithKLeft() {
        EDGES.sentence(18, "at the i-th FARM of the ROW with k (1 to 4) left");
        PedlarPack x = with("1:0=16,0,0", 1);
        EDGES.all("too small, too large", Edges.BAD, x.ask(0, 0, 0), x.ask(0, 0, -1), x.ask(0, 0, 5));
        EDGES.all("1 to 4", 0, x.ask(0, 0, 1), x.ask(0, 0, 2), x.ask(0, 0, 3), x.ask(0, 0, 4));
    }

    private static void askThree() {
        EDGES.sentence(18, "a LEVEL; 3.");
        PedlarPack x = with("1:0=16,16,16;2:0=16,0,0", 1, 2);
        EDGES.due("the highest", x.ask(0, 0, 1), 2);
        x.thing(0, 0, 99);
        EDGES.due("none", x.ask(0, 0, 1), 3);
        EDGES.due("of no CHANCE, like none", x.ask(0, 1, 1), 1);
    }

    private static void askNoSuchFarm() {
        EDGES.sentence(18, "BAD: also no such FARM of the ROW.");
        PedlarPack x = new PedlarPack();
        EDGES.all("no ROW", Edges.BAD, x.ask(0, 0, 1), x.ask(0, -1, 1));
        Checks.row(x, 1);
        EDGES.due("the only one", x.ask(0, 0, 1), 0);
        EDGES.all("behind it", Edges.BAD, x.ask(0, 1, 1), x.ask(0, Edges.MOST, 1), x.ask(0, -1, 1), x.ask(0, Edges.LEAST, 1));
        Checks.row(x, 1, 2, 3, 4, 5, 6, 7);
        EDGES.due("the seventh", x.ask(0, 6, 1), 0);
        EDGES.due("no eighth", x.ask(0, 7, 1), Edges.BAD);
        Checks.row(x, 1, 2);
        EDGES.due("a ROW that became shorter", x.ask(0, 2, 1), Edges.BAD);
    }

    private static void askBad() {
        EDGES.sentence(18, "BAD:");
        PedlarPack x = with("1:0=16,0,0", 1);
        for (int none : new int[] {-1, 6, Edges.LEAST, Edges.MOST}) {
            EDGES.all("with " + none, Edges.BAD, x.ask(none, 0, 1), x.ask(0, none, 1), x.ask(0, 0, none));
        }
    }

    private static void valueBehindAll() {
        EDGES.sentence(19, "(i = how many there are: behind all)");
        PedlarPack x = new PedlarPack();
        EDGES.due("no ROW: behind all", x.value(0, 0, 4, 0), 4);
        EDGES.all("beyond", Checks.LONG_BAD, x.value(0, 1, 4, 0), x.value(0, -1, 4, 0));
        Checks.wants(x, "1:0=16,16,16");
        Checks.row(x, 2, 3, 4, 5, 6, 7, 1);
        EDGES.due("at the last", x.value(0, 6, 4, 0), 7);
        EDGES.due("behind all seven", x.value(0, 7, 4, 0), 4);
        EDGES.all("beyond", Checks.LONG_BAD, x.value(0, 8, 4, 0), x.value(0, Edges.MOST, 4, 0), x.value(0, Edges.LEAST, 4, 0));
    }

    private static void valueOfNone() {
        EDGES.sentence(19, "VALUE of k of a THING from the i-th FARM on");
        PedlarPack x = with("1:0=16,16,16", 1);
        EDGES.fraction("of none", x.value(0, 0, 0, 0), x.value(0, 0, 0, 1), 0, 1);
        EDGES.fraction("of none behind all", x.value(0, 1, 0, 0), x.value(0, 1, 0, 1), 0, 1);
        EDGES.fraction("of four", x.value(0, 0, 4, 0), x.value(0, 0, 4, 1), 7, 1);
        EDGES.all("too small, too large", Checks.LONG_BAD, x.value(0, 0, -1, 0), x.value(0, 0, 5, 0));
    }

    private static void valueBad() {
        EDGES.sentence(19, "above, below. BAD.");
        PedlarPack x = with("1:0=8,0,0", 1);
        EDGES.fraction("above, below", x.value(0, 0, 1, 0), x.value(0, 0, 1, 1), 3, 2);
        for (int none : new int[] {-1, 6, Edges.LEAST, Edges.MOST}) {
            EDGES.all("with " + none, Checks.LONG_BAD, x.value(none, 0, 1, 0), x.value(0, none, 1, 0), x.value(0, 0, none, 0), x.value(0, 0, 1, none));
        }
        EDGES.due("neither above nor below", x.value(0, 0, 1, 2), Checks.LONG_BAD);
    }

    private static void valueRefusal() {
        EDGES.sentence(19, "(A refusal -x is the least long and x more.)");
        EDGES.due("BAD", new PedlarPack().value(0, 0, 5, 0), -9223372036854775806L);
    }

    private static void gainTerms() {
        EDGES.sentence(20, "GAIN of the PACK along the ROW: above, below.");
        PedlarPack x = with("1:0=8,0,0", 1);
        EDGES.fraction("an empty PACK", x.gain(0), x.gain(1), 0, 1);
        Checks.pack(x, 1, 0, 0, 0, 0, 0);
        EDGES.fraction("one", x.gain(0), x.gain(1), 1, 2);
        x.thing(0, 2, 2);
        EDGES.fraction("one with LOSS", x.gain(0), x.gain(1), -1, 2);
        Checks.row(x);
        EDGES.fraction("an empty ROW", x.gain(0), x.gain(1), -2, 1);
    }

    private static void gainBad() {
        EDGES.sentence(20, "BAD. (A refusal -x is the least long and x more.)");
        PedlarPack x = new PedlarPack();
        EDGES.all("neither above nor below", -9223372036854775806L, x.gain(-1), x.gain(2), x.gain(Edges.LEAST), x.gain(Edges.MOST));
    }

    private static void bestWeight() {
        EDGES.sentence(21, "how many of a THING; its weight (thing = NONE).");
        PedlarPack x = new PedlarPack();
        EDGES.due("of nothing", x.best(-1), 0);
        Checks.row(x, 1, 2);
        Checks.wants(x, "1:5=16,16,16;2:5=16,16,16;1:0=16,16,16");
        x.thing(5, 1, 7);
        x.thing(0, 1, 6);
        EDGES.due("20 of 20", x.best(-1), 20);
        EDGES.all("how many", 1, x.best(0), x.best(5) - 1);
        x.set(1, 19);
        EDGES.due("6 by two of THING 5, or by one of each: the lighter", x.best(-1), 13);
    }

    private static void bestBad() {
        EDGES.sentence(21, "BAD.");
        PedlarPack x = new PedlarPack();
        EDGES.all("no such THING", Edges.BAD, x.best(-2), x.best(6), x.best(Edges.LEAST), x.best(Edges.MOST));
        EDGES.all("at the ends", 0, x.best(-1), x.best(0), x.best(5));
    }

    private static void loadWhich() {
        EDGES.sentence(22, "GAIN of the BEST PACK (which = 0), of what is LOADED (1), BOUND (2): above, below.");
        PedlarPack x = with("1:5=0,0,0", 1);
        for (int which = 0; which < 3; which++) {
            EDGES.fraction("of nothing, " + which, x.load(which, 0), x.load(which, 1), 0, 1);
        }
        sure(x, 0, 0, 3, 8);
        sure(x, 1, 0, 5, 13);
        x.set(1, 5);
        EDGES.fraction("the BEST PACK", x.load(0, 0), x.load(0, 1), 13, 1);
        EDGES.fraction("LOADED", x.load(1, 0), x.load(1, 1), 8, 1);
        EDGES.fraction("BOUND", x.load(2, 0), x.load(2, 1), 66, 5);
    }

    private static void loadBad() {
        EDGES.sentence(22, "BAD. (A refusal -x is the least long and x more.)");
        PedlarPack x = new PedlarPack();
        EDGES.all("no such one", -9223372036854775806L, x.load(-1, 0), x.load(3, 0), x.load(Edges.LEAST, 0), x.load(Edges.MOST, 0));
        for (int which = 0; which < 3; which++) {
            EDGES.all("neither above nor below", -9223372036854775806L, x.load(which, -1), x.load(which, 2), x.load(which, Edges.LEAST),
                    x.load(which, Edges.MOST));
        }
    }

    private static void loadedWeight() {
        EDGES.sentence(23, "LOADED: how many of a THING; its weight (thing = NONE).");
        PedlarPack x = with("1:5=0,0,0", 1);
        EDGES.due("of nothing", x.loaded(-1), 0);
        sure(x, 0, 0, 3, 8);
        sure(x, 5, 0, 17, 13);
        EDGES.due("20 of 20", x.loaded(-1), 20);
        EDGES.all("how many", 1, x.loaded(0), x.loaded(5));
        x.set(1, 19);
        EDGES.due("3 of 19", x.loaded(-1), 3);
        EDGES.due("not the other", x.loaded(5), 0);
    }

    private static void loadedBad() {
        EDGES.sentence(23, "BAD.");
        PedlarPack x = new PedlarPack();
        EDGES.all("no such THING", Edges.BAD, x.loaded(-2), x.loaded(6), x.loaded(Edges.LEAST), x.loaded(Edges.MOST));
        EDGES.all("at the ends", 0, x.loaded(-1), x.loaded(0), x.loaded(5));
    }
}
