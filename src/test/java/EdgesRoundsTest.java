/** Boundary cases of rounds: promises 24 to 31 and what the terms say of them. */
public final class EdgesRoundsTest {
    private static final Edges EDGES = new Edges();

    public static void main(String[] args) {
        fiveOpenAtMost();
        rowsOfOpenFarms();
        rowsThatTheDayLetsBe();
        eachWithItsBestPack();
        fewestFarms();
        leastRow();
        onwardWithWhatIsLeft();
        onwardOtherThanThePlace();
        onwardHomeInTime();
        onwardLikewise();
        onwardWhichIsFirst();
        onwardHomeAtOnce();
        trustWithKLeft();
        trustShowsNoOther();
        trustPaidAtALevel();
        trustElseItIsLost();
        trustWhereBothAreAlike();
        twoFiveAtMost();
        twoLeavesOut();
        twoOfAllOfEach();
        twoOfNone();
        twoLeastFirstSet();
        twoLeastSecondSet();
        bringsWithoutIt();
        strapsLeastForAllItsWeight();
        strapsLikeOnes();
        strapsOfNothing();
        roundHowMany();
        roundBeyond();
        roundBad();
        roundFull();
        roundsTerms();
        roundsBad();
        roundsFull();
        onwardHoursGone();
        onwardBad();
        onwardFull();
        trustAnswers();
        trustBad();
        twoAsBits();
        twoBad();
        twoFull();
        bothTerms();
        bothBad();
        bothFull();
        bringsTerms();
        bringsBad();
        strapsAnswers();
        EDGES.end(24, 31);
    }

    /** FARMS 1, 2, 3 along one road; 1 buys THING 0 for 5, 2 buys THING 1 for 7, 3 does so with half a chance. */
    private static PedlarPack along() {
        PedlarPack x = new PedlarPack();
        x.set(2, 7);
        x.road(0, 1, 10);
        x.road(1, 2, 10);
        x.road(2, 3, 10);
        Checks.thing(x, 0, 0, 1, 0, 5, 5, 5);
        Checks.thing(x, 1, 0, 1, 0, 7, 7, 7);
        Checks.wants(x, "1:0=16,16,16;2:1=16,16,16;3:1=8,8,8");
        return x;
    }

    /** A ring HOME, 1, 3, 2, HOME of ROADS of 5; FARMS 1, 2, 3 buy THINGS 1, 2, 3. */
    private static PedlarPack ring() {
        PedlarPack x = new PedlarPack();
        x.set(2, 7);
        x.road(0, 1, 5);
        x.road(1, 3, 5);
        x.road(3, 2, 5);
        x.road(2, 0, 5);
        Checks.wants(x, "1:1=16,16,16;2:2=16,16,16;3:3=16,16,16");
        return x;
    }

    /** THINGS with a WEIGHT and a PRICE each, all without COST and bought for sure at FARM 1, the ROW. */
    private static PedlarPack shelf(int limit, int[]... things) {
        PedlarPack x = new PedlarPack();
        for (int thing = 0; thing < things.length; thing++) {
            int price = things[thing][1];
            Checks.thing(x, thing, 0, things[thing][0], 0, price, price, price);
            Checks.wants(x, "1:" + thing + "=16,16,16");
        }
        Checks.row(x, 1);
        x.set(1, limit);
        return x;
    }

    private static void dueRound(String what, PedlarPack x, int... farms) {
        EDGES.due(what + ": how many", x.round(-1), farms.length);
        for (int i = 0; i < farms.length; i++) {
            EDGES.due(what + ": FARM " + i, x.round(i), farms[i]);
        }
        EDGES.due(what + ": beyond", x.round(farms.length), -1);
    }

    private static void fiveOpenAtMost() {
        EDGES.sentence(0, "ROUNDS (of FARMS that are OPEN, a set told as bits; 5 at most: FULL)");
        PedlarPack x = along();
        for (int open = 0; open < 128; open++) {
            x.set(2, open);
            boolean full = Integer.bitCount(open) > 5;
            EDGES.due("round() with " + open, x.round(-1) == Edges.FULL ? 1 : 0, full ? 1 : 0);
            EDGES.due("rounds() with " + open, x.rounds(0) == Checks.LONG_FULL ? 1 : 0, full ? 1 : 0);
        }
        x.set(2, 31);
        dueRound("five are OPEN", x, 1, 2, 3);
    }

    private static void rowsOfOpenFarms() {
        EDGES.sentence(0, "of all ROWS of OPEN FARMS that");
        PedlarPack x = along();
        x.set(2, 5);
        dueRound("2 is not OPEN, but on the WAY", x, 1, 3);
        x.set(2, 2);
        dueRound("2 alone", x, 2);
        x.set(2, 64);
        dueRound("only one that buys nothing", x);
        x.set(2, 0);
        dueRound("none", x);
        EDGES.fraction("its GAIN", x.rounds(0), x.rounds(1), 0, 1);
    }

    private static void rowsThatTheDayLetsBe() {
        EDGES.sentence(0, "that the DAY lets be, each with its BEST PACK");
        PedlarPack x = along();
        x.set(0, 60);
        dueRound("60 of 60", x, 1, 2, 3);
        x.set(0, 59);
        dueRound("60 of 59", x, 1, 2);
        x.set(0, 40);
        dueRound("40 of 40", x, 1, 2);
        x.set(0, 39);
        dueRound("40 of 39", x, 1);
        x.set(0, 20);
        dueRound("20 of 20", x, 1);
        x.set(0, 19);
        dueRound("20 of 19", x);
        x.set(0, 200);
        x.road(0, 1, 0);
        dueRound("no WAY", x);
    }

    private static void eachWithItsBestPack() {
        EDGES.sentence(0, "each with its BEST PACK, the one with the most GAIN");
        PedlarPack x = along();
        x.set(1, 1);
        dueRound("room for one", x, 2);
        x.thing(1, 1, 2);
        dueRound("not for the heavy one", x, 1);
        x.thing(0, 1, 2);
        dueRound("for none", x);
        x.set(1, 2);
        dueRound("just for one", x, 2);
        Checks.pack(x, 4, 4, 4, 4, 4, 4);
        EDGES.due("whatever the PACK has", x.rounds(0), 7);
        x = along();
        for (int thing = 0; thing < 6; thing++) {
            x.thing(thing, 2, 99);
        }
        EDGES.fraction("what would come home stays there", x.rounds(0), x.rounds(1), 12, 1);
        dueRound("and so does what might", x, 1, 2);
        Checks.row(x, 2, 1);
        EDGES.due("a PACK for a longer ROW than the DAY lets be", x.best(1), 1);
        x.set(0, 20);
        EDGES.fraction("is not taken along", x.rounds(0), x.rounds(1), 5, 1);
        EDGES.due("a PACK for that ROW", x.best(0), 1);
        x.set(0, 19);
        EDGES.fraction("nor HOME", x.rounds(0), x.rounds(1), 0, 1);
    }

    private static void fewestFarms() {
        EDGES.sentence(0, "the one with the most GAIN, of like ones with the fewest FARMS");
        PedlarPack x = along();
        Checks.wants(x, "3:1=0,0,0");
        dueRound("3 adds nothing", x, 1, 2);
        Checks.wants(x, "1:0=0,0,0");
        dueRound("2 alone, though 1, 2 is the lesser row", x, 2);
        Checks.wants(x, "2:1=0,0,0");
        dueRound("none, where none buys", x);
        x = along();
        x.thing(0, 0, 5);
        dueRound("1 adds just 0", x, 2, 3);
    }

    private static void leastRow() {
        EDGES.sentence(0, "then the least row (the first FARM compared first)");
        PedlarPack x = ring();
        dueRound("all are in time", x, 1, 2, 3);
        x.set(0, 20);
        dueRound("1, 3, 2 or 2, 3, 1 in time", x, 1, 3, 2);
        x.set(0, 19);
        x.set(2, 3);
        dueRound("both alone", x, 1);
        x.set(0, 20);
        dueRound("1, 2 or 2, 1", x, 1, 2);
        x.set(2, 6);
        dueRound("2, 3 or 3, 2", x, 2, 3);
    }

    private static void onwardWithWhatIsLeft() {
        EDGES.sentence(0, "ONWARD: from a PLACE, so many HOURS gone, with a PACK that is what is left");
        PedlarPack x = along();
        EDGES.due("nothing left", x.onward(0, 0), -1);
        Checks.pack(x, 1, 0, 0, 0, 0, 0);
        EDGES.due("THING 0 alone", x.onward(0, 0), 1);
        Checks.pack(x, 0, 1, 0, 0, 0, 0);
        EDGES.due("THING 1 alone", x.onward(0, 0), 2);
        Checks.pack(x, 4, 4, 4, 4, 4, 4);
        EDGES.due("heavier than the LIMIT", x.onward(0, 0), 1);
        Checks.row(x, 3);
        EDGES.due("whatever the ROW", x.onward(0, 0), 1);
    }

    private static void onwardOtherThanThePlace() {
        EDGES.sentence(0, "of all ROWS of OPEN FARMS other than the PLACE");
        PedlarPack x = along();
        Checks.pack(x, 0, 1, 0, 0, 0, 0);
        EDGES.due("from where it is wanted", x.onward(2, 0), 3);
        x.set(2, 5);
        EDGES.due("2 is not OPEN", x.onward(1, 0), 3);
        EDGES.due("from one that is not OPEN", x.onward(2, 0), 3);
        x.set(2, 4);
        EDGES.due("from the only one", x.onward(3, 0), -1);
        x.set(2, 0);
        EDGES.due("none is OPEN", x.onward(1, 0), -1);
    }

    private static void onwardHomeInTime() {
        EDGES.sentence(0, "by which one is HOME in time");
        PedlarPack x = along();
        Checks.pack(x, 0, 1, 0, 0, 0, 0);
        EDGES.due("2 and HOME, 30 of 30", x.onward(1, 30), 2);
        EDGES.due("30 of 29", x.onward(1, 31), -1);
        EDGES.due("from HOME, 40 of 40", x.onward(0, 20), 2);
        EDGES.due("from HOME, 40 of 39", x.onward(0, 21), -1);
        x.set(0, 61);
        EDGES.due("a longer DAY", x.onward(1, 31), 2);
        Checks.pack(x, 0, 2, 0, 0, 0, 0);
        EDGES.due("the near one for the second", x.onward(0, 1), 2);
    }

    private static void onwardLikewise() {
        EDGES.sentence(0, "the one with the most VALUE of what is left, likewise;");
        PedlarPack x = ring();
        Checks.pack(x, 0, 1, 1, 1, 0, 0);
        x.set(0, 20);
        EDGES.due("of like ones the least row", x.onward(0, 0), 1);
        Checks.pack(x, 0, 0, 0, 1, 0, 0);
        EDGES.due("the fewest FARMS, though 1, 3 is the lesser row", x.onward(0, 0), 3);
        Checks.pack(x, 0, 1, 0, 0, 0, 0);
        x.thing(1, 0, 4);
        EDGES.due("of like ones none", x.onward(0, 0), -1);
        x.thing(1, 2, 1);
        EDGES.due("the most VALUE", x.onward(0, 0), 1);
    }

    private static void onwardWhichIsFirst() {
        EDGES.sentence(0, "which FARM is first;");
        PedlarPack x = ring();
        Checks.pack(x, 0, 0, 1, 1, 0, 0);
        EDGES.due("2, 3 ahead of 3, 2", x.onward(0, 0), 2);
        x.set(0, 15);
        EDGES.due("from 1 by 3 and 2, 15 of 15", x.onward(1, 0), 3);
        EDGES.due("15 of 14, by either alone, too", x.onward(1, 1), -1);
        x.set(2, 64);
        x.road(2, 7, 1);
        Checks.wants(x, "7:2=16,16,16");
        EDGES.due("the last FARM", x.onward(2, 0), 7);
    }

    private static void onwardHomeAtOnce() {
        EDGES.sentence(0, "NONE: HOME at once (also where that is too late)");
        PedlarPack x = along();
        Checks.pack(x, 1, 1, 0, 0, 0, 0);
        EDGES.due("HOME, 30 of 30, by 2 and 1", x.onward(3, 30), 2);
        EDGES.due("too late for HOME", x.onward(3, 31), -1);
        EDGES.due("the DAY is over", x.onward(3, 60), -1);
        EDGES.due("long over", x.onward(0, 200), -1);
        EDGES.due("no WAY HOME", x.onward(7, 0), -1);
        EDGES.due("at HOME as the DAY ends", x.onward(0, 60), -1);
        Checks.pack(x, 0, 0, 0, 0, 0, 0);
        EDGES.due("nothing left", x.onward(3, 0), -1);
    }

    private static void trustWithKLeft() {
        EDGES.sentence(0, "TRUST: at the i-th FARM of a ROW with k (1 to 4) left of a THING");
        PedlarPack x = along();
        Checks.row(x, 3, 2);
        EDGES.all("too small, too large", Edges.BAD, x.trust(1, 0, 0, 0, 16), x.trust(1, 0, -1, 0, 16), x.trust(1, 0, 5, 0, 16));
        EDGES.due("one: 7 against 7", x.trust(1, 0, 1, 0, 16), 0);
        EDGES.due("two: 7 and 7 against 10 1/2", x.trust(1, 0, 2, 0, 16), 1);
        EDGES.due("four: the same", x.trust(1, 0, 4, 0, 16), 1);
        EDGES.due("at the last: 7 against 7", x.trust(1, 1, 4, 0, 16), 0);
        EDGES.all("no such FARM", Edges.BAD, x.trust(1, 2, 1, 0, 16), x.trust(1, -1, 1, 0, 16));
    }

    private static void trustShowsNoOther() {
        EDGES.sentence(0, "whether it is better to leave one (and to show no other there)");
        PedlarPack x = along();
        Checks.row(x, 2);
        EDGES.due("7 on trust, not 14", x.trust(1, 0, 2, 2, 16), 0);
        Checks.row(x, 2, 3);
        EDGES.due("7 on trust and 3 1/2, against as much", x.trust(1, 0, 2, 2, 16), 0);
        x.thing(1, 5, 8);
        EDGES.due("the higher PRICE, but asked too", x.trust(1, 0, 2, 2, 16), 0);
        Checks.wants(x, "2:1=16,16,0");
        EDGES.due("8 on trust and 4, against 7 and 4", x.trust(1, 0, 2, 2, 16), 1);
    }

    private static void trustPaidAtALevel() {
        EDGES.sentence(0, "that is paid at a LEVEL's PRICE at the next ROUND");
        PedlarPack x = new PedlarPack();
        Checks.row(x, 1);
        Checks.thing(x, 0, 16, 1, 0, 15, 16, 17);
        EDGES.due("15 against 16", x.trust(0, 0, 1, 0, 16), 0);
        EDGES.due("16 against 16", x.trust(0, 0, 1, 1, 16), 0);
        EDGES.due("17 against 16", x.trust(0, 0, 1, 2, 16), 1);
        EDGES.all("no such LEVEL", Edges.BAD, x.trust(0, 0, 1, -1, 16), x.trust(0, 0, 1, 3, 16));
    }

    private static void trustElseItIsLost() {
        EDGES.sentence(0, "with a chance of q by 16 (0 to 16; else it is lost)");
        PedlarPack x = new PedlarPack();
        Checks.row(x, 1);
        Checks.thing(x, 0, 0, 1, 1, 16, 16, 16);
        EDGES.all("too small, too large", Edges.BAD, x.trust(0, 0, 1, 0, -1), x.trust(0, 0, 1, 0, 17));
        EDGES.due("lost is 0, better than -1", x.trust(0, 0, 1, 0, 0), 1);
        x.thing(0, 0, 1);
        EDGES.due("lost is 0, like what comes home", x.trust(0, 0, 1, 0, 0), 0);
        EDGES.due("1 by 16 of 16", x.trust(0, 0, 1, 0, 1), 1);
        x.thing(0, 0, 2);
        EDGES.due("1 by 16 of 16, like what comes home", x.trust(0, 0, 1, 0, 1), 0);
        x.thing(0, 0, 16);
        EDGES.due("16 by 16", x.trust(0, 0, 1, 0, 16), 1);
        EDGES.due("15 by 16, like what comes home", x.trust(0, 0, 1, 0, 15), 0);
    }

    private static void trustWhereBothAreAlike() {
        EDGES.sentence(0, "1, 0 (also where both are alike)");
        PedlarPack x = along();
        Checks.row(x, 1);
        EDGES.due("5 against 5", x.trust(0, 0, 1, 0, 16), 0);
        x.thing(0, 2, 1);
        EDGES.due("5 against 5, with a LOSS", x.trust(0, 0, 1, 0, 16), 0);
        EDGES.due("5 and -1 against as much", x.trust(0, 0, 2, 0, 16), 0);
        x.thing(0, 5, 6);
        Checks.wants(x, "1:0=16,16,0");
        EDGES.due("6 against 5", x.trust(0, 0, 1, 2, 16), 1);
        EDGES.due("5 against 5 again", x.trust(0, 0, 1, 1, 16), 0);
    }

    private static void twoFiveAtMost() {
        EDGES.sentence(0, "TWO: OPEN FARMS (5 at most: FULL) are parted");
        PedlarPack x = along();
        for (int open = 0; open < 128; open++) {
            x.set(2, open);
            boolean full = Integer.bitCount(open) > 5;
            EDGES.due("two() with " + open, x.two(0) == Edges.FULL ? 1 : 0, full ? 1 : 0);
            EDGES.due("both() with " + open, x.both(0) == Checks.LONG_FULL ? 1 : 0, full ? 1 : 0);
        }
    }

    private static void twoLeavesOut() {
        EDGES.sentence(0, "a first set, a second, and those left out");
        PedlarPack x = along();
        Checks.wants(x, "1:0=0,0,0");
        EDGES.due("1 buys nothing: the first set", x.two(0), 0);
        EDGES.due("1 buys nothing: the second", x.two(1), 6);
        x.set(0, 40);
        EDGES.due("3 is too far, too", x.two(0) * 10 + x.two(1), 2);
        Checks.wants(x, "2:1=0,0,0");
        EDGES.due("all left out", x.two(0) * 10 + x.two(1), 0);
    }

    private static void twoOfAllOfEach() {
        EDGES.sentence(0, "the GAINS of the best ROWS of all of the one, and of all of the other (that the DAY lets be, with a BEST PACK each;");
        PedlarPack x = ring();
        x.set(0, 20);
        EDGES.due("one for all, 20 of 20", x.two(0) * 10 + x.two(1), 7);
        x.set(0, 19);
        EDGES.due("10 for 1 and 2 each, and 3 is too far", x.two(0) * 10 + x.two(1), 12);
        EDGES.fraction("together", x.both(0), x.both(1), 6, 1);
        x.set(0, 10);
        EDGES.due("10 of 10", x.two(0) * 10 + x.two(1), 12);
        x.set(0, 9);
        EDGES.due("10 of 9", x.two(0) * 10 + x.two(1), 0);
        x.set(0, 60);
        x.set(1, 1);
        EDGES.due("room for one each", x.two(0) * 10 + x.two(1), 12);
        EDGES.fraction("one each", x.both(0), x.both(1), 6, 1);
        x.set(1, 2);
        EDGES.due("room for two each", x.two(0) * 10 + x.two(1), 16);
        EDGES.fraction("all three", x.both(0), x.both(1), 9, 1);
        EDGES.due("the best ROUND has room for two", x.rounds(0), 6);
    }

    private static void twoOfNone() {
        EDGES.sentence(0, "of none 0) are most together");
        PedlarPack x = new PedlarPack();
        x.set(2, 0);
        EDGES.all("none is OPEN", 0, x.two(0), x.two(1), x.both(0));
        EDGES.due("0 by 1", x.both(1), 1);
        x.set(2, 31);
        EDGES.all("no WAYS", 0, x.two(0), x.two(1), x.both(0));
        x = along();
        EDGES.due("one has none", x.two(0), 0);
        EDGES.fraction("so both have what the other has", x.both(0), x.both(1), 31, 2);
    }

    private static void twoLeastFirstSet() {
        EDGES.sentence(0, "of like ones the least first set as bits");
        PedlarPack x = ring();
        EDGES.due("all by the second", x.two(0), 0);
        x.set(0, 10);
        EDGES.due("1 and 2, not 2 and 1", x.two(0), 1);
        x.set(0, 60);
        x.set(1, 2);
        EDGES.due("1 and 2, 3; not the other way about", x.two(0), 1);
        x = new PedlarPack();
        x.set(2, 96);
        x.set(0, 10);
        x.road(0, 6, 5);
        x.road(0, 7, 5);
        Checks.wants(x, "6:0=16,16,16;7:0=8,8,8");
        EDGES.due("6 and 7, not 7 and 6", x.two(0), 32);
    }

    private static void twoLeastSecondSet() {
        EDGES.sentence(0, "the least first set as bits, then the least second.");
        PedlarPack x = ring();
        x.set(1, 1);
        EDGES.due("1 and 2, not 1 and 3", x.two(1), 2);
        x.set(1, 20);
        Checks.wants(x, "2:2=0,0,0");
        EDGES.due("none and 1, 3, not all three", x.two(1), 5);
        Checks.wants(x, "1:1=0,0,0;3:3=0,0,0");
        EDGES.due("none and none", x.two(1), 0);
    }

    private static void bringsWithoutIt() {
        EDGES.sentence(0, "BRINGS of a THING: GAIN of the BEST PACK for a ROW less that of the best one without it.");
        PedlarPack x = shelf(7, new int[] {4, 12}, new int[] {3, 8}, new int[] {3, 7});
        EDGES.fraction("15 comes in its stead", x.brings(0, 0), x.brings(0, 1), 5, 1);
        EDGES.fraction("7 comes in its stead", x.brings(1, 0), x.brings(1, 1), 1, 1);
        EDGES.fraction("it is not in the PACK", x.brings(2, 0), x.brings(2, 1), 0, 1);
        x.set(1, 100);
        EDGES.fraction("nothing comes in its stead", x.brings(2, 0), x.brings(2, 1), 7, 1);
        x.set(1, 3);
        EDGES.fraction("too heavy", x.brings(0, 0), x.brings(0, 1), 0, 1);
        x.thing(2, 5, 8);
        x.thing(2, 4, 8);
        EDGES.fraction("another brings as much in its stead", x.brings(2, 0), x.brings(2, 1), 0, 1);
        EDGES.due("though it is in the PACK", x.best(2), 1);
        Checks.row(x);
        EDGES.fraction("no ROW", x.brings(0, 0), x.brings(0, 1), 0, 1);
    }

    private static void strapsLeastForAllItsWeight() {
        EDGES.sentence(0, "STRAPS: the THING in the BEST PACK that BRINGS least for its weight there (all of it)");
        PedlarPack x = shelf(20, new int[] {1, 4}, new int[] {3, 9});
        EDGES.due("4 by 1, 9 by 3", x.straps(), 1);
        Checks.wants(x, "2:0=16,16,16");
        Checks.row(x, 1, 2);
        EDGES.due("8 by 2, 9 by 3", x.straps(), 1);
        Checks.wants(x, "1:0=8,8,8;2:0=8,8,8");
        EDGES.due("4 by 2, 9 by 3", x.straps(), 0);
        EDGES.due("two of it are in the PACK", x.best(0), 2);
        x = shelf(6, new int[] {3, 9}, new int[] {3, 6}, new int[] {3, 6});
        EDGES.due("0 and 2 are in it, 2 brings 0, 1 is not in it", x.straps(), 2);
    }

    private static void strapsLikeOnes() {
        EDGES.sentence(0, "(all of it), of like ones the least;");
        PedlarPack x = shelf(20, new int[] {2, 6}, new int[] {1, 3}, new int[] {3, 9});
        EDGES.due("6 by 2, 3 by 1, 9 by 3", x.straps(), 0);
        x.thing(0, 5, 7);
        EDGES.due("7 by 2, 3 by 1, 9 by 3", x.straps(), 1);
        x.thing(1, 5, 4);
        EDGES.due("7 by 2, 4 by 1, 9 by 3", x.straps(), 2);
    }

    private static void strapsOfNothing() {
        EDGES.sentence(0, "of like ones the least; NONE: the PACK is empty.");
        PedlarPack x = new PedlarPack();
        EDGES.due("no ROW", x.straps(), -1);
        Checks.pack(x, 4, 4, 4, 4, 4, 4);
        EDGES.due("whatever the PACK has", x.straps(), -1);
        x = shelf(2, new int[] {3, 9});
        EDGES.due("what is wanted is too heavy", x.straps(), -1);
        x.set(1, 3);
        EDGES.due("one alone", x.straps(), 0);
    }

    private static void roundHowMany() {
        EDGES.sentence(24, "The best ROUND: how many FARMS (i = NONE), the i-th;");
        PedlarPack x = new PedlarPack();
        x.set(2, 0);
        EDGES.due("none", x.round(-1), 0);
        x.set(2, 124);
        for (int farm = 3; farm <= 7; farm++) {
            x.road(0, farm, 1);
            Checks.wants(x, farm + ":" + (farm - 3) + "=16,16,16");
        }
        dueRound("all five", x, 3, 4, 5, 6, 7);
    }

    private static void roundBeyond() {
        EDGES.sentence(24, "NONE beyond.");
        PedlarPack x = along();
        EDGES.due("the last", x.round(2), 3);
        EDGES.all("behind it", -1, x.round(3), x.round(4), x.round(5), x.round(6), x.round(7), x.round(8), x.round(40), x.round(Edges.MOST));
        x.set(2, 0);
        EDGES.all("of none", -1, x.round(0), x.round(Edges.MOST));
    }

    private static void roundBad() {
        EDGES.sentence(24, "BAD; FULL.");
        PedlarPack x = along();
        EDGES.all("below NONE", Edges.BAD, x.round(-2), x.round(-3), x.round(Edges.LEAST));
        x.set(2, 127);
        EDGES.all("BAD ahead of FULL", Edges.BAD, x.round(-2), x.round(Edges.LEAST));
    }

    private static void roundFull() {
        EDGES.sentence(24, "FULL.");
        PedlarPack x = along();
        x.set(2, 63);
        EDGES.all("six", Edges.FULL, x.round(-1), x.round(0), x.round(7), x.round(Edges.MOST));
        x.set(2, 127);
        EDGES.all("seven", Edges.FULL, x.round(-1), x.round(0));
        x.set(2, 31);
        EDGES.due("five", x.round(-1), 3);
    }

    private static void roundsTerms() {
        EDGES.sentence(25, "Its GAIN: above, below.");
        PedlarPack x = along();
        EDGES.fraction("of all", x.rounds(0), x.rounds(1), 31, 2);
        x.set(0, 19);
        EDGES.fraction("of none", x.rounds(0), x.rounds(1), 0, 1);
    }

    private static void roundsBad() {
        EDGES.sentence(25, "BAD; FULL. (A refusal -x is the least long and x more.)");
        PedlarPack x = along();
        EDGES.all("neither above nor below", -9223372036854775806L, x.rounds(-1), x.rounds(2), x.rounds(Edges.LEAST), x.rounds(Edges.MOST));
        x.set(2, 127);
        EDGES.all("BAD ahead of FULL", -9223372036854775806L, x.rounds(-1), x.rounds(2));
    }

    private static void roundsFull() {
        EDGES.sentence(25, "FULL. (A refusal -x is the least long and x more.)");
        PedlarPack x = along();
        x.set(2, 111);
        EDGES.all("six", -9223372036854775804L, x.rounds(0), x.rounds(1));
        x.set(2, 79);
        EDGES.due("five", x.rounds(1), 2);
    }

    private static void onwardHoursGone() {
        EDGES.sentence(26, "ONWARD from a PLACE, HOURS gone (0 to 200), with the PACK.");
        PedlarPack x = along();
        Checks.pack(x, 1, 1, 0, 0, 0, 0);
        EDGES.due("none gone", x.onward(0, 0), 1);
        EDGES.due("200 gone", x.onward(0, 200), -1);
        EDGES.all("too small, too large", Edges.BAD, x.onward(0, -1), x.onward(0, 201), x.onward(0, Edges.LEAST), x.onward(0, Edges.MOST));
        x.set(0, 200);
        EDGES.due("180 of 200 gone", x.onward(0, 180), 1);
        EDGES.due("181 of 200 gone", x.onward(0, 181), -1);
    }

    private static void onwardBad() {
        EDGES.sentence(26, "BAD; FULL.");
        PedlarPack x = along();
        EDGES.all("no such PLACE", Edges.BAD, x.onward(-1, 0), x.onward(8, 0), x.onward(Edges.LEAST, 0), x.onward(Edges.MOST, 0));
        EDGES.all("at the ends", -1, x.onward(0, 0), x.onward(7, 0));
        x.set(2, 127);
        EDGES.all("BAD ahead of FULL", Edges.BAD, x.onward(-1, 0), x.onward(8, 0), x.onward(0, -1), x.onward(0, 201));
    }

    private static void onwardFull() {
        EDGES.sentence(26, "FULL.");
        PedlarPack x = along();
        x.set(2, 63);
        EDGES.all("six, from HOME, from one of them, from another", Edges.FULL, x.onward(0, 0), x.onward(1, 0), x.onward(7, 0));
        x.set(2, 127);
        EDGES.all("seven", Edges.FULL, x.onward(0, 0), x.onward(7, 200));
        x.set(2, 31);
        EDGES.all("five", -1, x.onward(0, 0), x.onward(1, 0));
    }

    private static void trustAnswers() {
        EDGES.sentence(27, "TRUST: 1, 0.");
        PedlarPack x = along();
        Checks.row(x, 3);
        EDGES.due("8 by 16 of 7 against as much", x.trust(1, 0, 1, 0, 8), 0);
        EDGES.due("9 by 16 of 7", x.trust(1, 0, 1, 0, 9), 1);
        EDGES.due("for a THING that none wants: 8 by 16 of 2 against 1", x.trust(5, 0, 1, 0, 8), 0);
        EDGES.due("9 by 16 of 2 against 1", x.trust(5, 0, 1, 0, 9), 1);
        EDGES.due("6 by 16 of 3 against 1", x.trust(5, 0, 4, 1, 6), 1);
        EDGES.due("4 by 16 of 4 against 1", x.trust(5, 0, 4, 2, 4), 0);
        EDGES.due("5 by 16 of 4 against 1", x.trust(5, 0, 4, 2, 5), 1);
    }

    private static void trustBad() {
        EDGES.sentence(27, "BAD.");
        PedlarPack x = along();
        Checks.row(x, 1);
        for (int none : new int[] {-1, 17, Edges.LEAST, Edges.MOST}) {
            EDGES.all("with " + none, Edges.BAD, x.trust(none, 0, 1, 0, 0), x.trust(0, none, 1, 0, 0), x.trust(0, 0, none, 0, 0),
                    x.trust(0, 0, 1, none, 0), x.trust(0, 0, 1, 0, none));
        }
        EDGES.all("just beyond", Edges.BAD, x.trust(6, 0, 1, 0, 0), x.trust(0, 1, 1, 0, 0), x.trust(0, 0, 0, 0, 0), x.trust(0, 0, 5, 0, 0),
                x.trust(0, 0, 1, 3, 0));
        EDGES.all("at the ends", 0, x.trust(0, 0, 1, 0, 0), x.trust(5, 0, 4, 2, 0));
        Checks.row(x);
        EDGES.due("no ROW", x.trust(0, 0, 1, 0, 0), Edges.BAD);
    }

    private static void twoAsBits() {
        EDGES.sentence(28, "TWO: the first set (which = 0), the second (1), as bits (bit 0 is FARM 1).");
        PedlarPack x = along();
        x.set(1, 1);
        EDGES.due("FARM 1", x.two(0), 1);
        EDGES.due("FARM 2", x.two(1), 2);
        x.set(2, 0);
        EDGES.all("no FARM", 0, x.two(0), x.two(1));
        x.set(2, 65);
        x.road(0, 7, 60);
        x.set(0, 120);
        Checks.wants(x, "7:0=16,16,16");
        EDGES.due("FARM 1 and FARM 7", x.two(0) * 1000 + x.two(1), 1064);
    }

    private static void twoBad() {
        EDGES.sentence(28, "BAD; FULL.");
        PedlarPack x = along();
        EDGES.all("no such one", Edges.BAD, x.two(-1), x.two(2), x.two(Edges.LEAST), x.two(Edges.MOST));
        x.set(2, 127);
        EDGES.all("BAD ahead of FULL", Edges.BAD, x.two(-1), x.two(2));
    }

    private static void twoFull() {
        EDGES.sentence(28, "FULL.");
        PedlarPack x = along();
        x.set(2, 63);
        EDGES.all("six", Edges.FULL, x.two(0), x.two(1));
        x.set(2, 31);
        EDGES.due("five", x.two(1), 7);
    }

    private static void bothTerms() {
        EDGES.sentence(29, "GAINS of TWO together: above, below.");
        PedlarPack x = along();
        EDGES.fraction("all by one", x.both(0), x.both(1), 31, 2);
        x.set(2, 0);
        EDGES.fraction("none", x.both(0), x.both(1), 0, 1);
    }

    private static void bothBad() {
        EDGES.sentence(29, "BAD; FULL. (A refusal -x is the least long and x more.)");
        PedlarPack x = along();
        EDGES.all("neither above nor below", -9223372036854775806L, x.both(-1), x.both(2), x.both(Edges.LEAST), x.both(Edges.MOST));
        x.set(2, 127);
        EDGES.all("BAD ahead of FULL", -9223372036854775806L, x.both(-1), x.both(2));
    }

    private static void bothFull() {
        EDGES.sentence(29, "FULL. (A refusal -x is the least long and x more.)");
        PedlarPack x = along();
        x.set(2, 126);
        EDGES.all("six", -9223372036854775804L, x.both(0), x.both(1));
        x.set(2, 124);
        EDGES.fraction("five", x.both(0), x.both(1), 7, 2);
    }

    private static void bringsTerms() {
        EDGES.sentence(30, "BRINGS: above, below.");
        PedlarPack x = along();
        Checks.row(x, 1, 3);
        EDGES.fraction("half of 7", x.brings(1, 0), x.brings(1, 1), 7, 2);
        EDGES.fraction("nothing", x.brings(5, 0), x.brings(5, 1), 0, 1);
    }

    private static void bringsBad() {
        EDGES.sentence(30, "BAD. (A refusal -x is the least long and x more.)");
        PedlarPack x = along();
        EDGES.all("no such THING", -9223372036854775806L, x.brings(-1, 0), x.brings(6, 0), x.brings(Edges.LEAST, 0), x.brings(Edges.MOST, 0));
        EDGES.all("neither above nor below", -9223372036854775806L, x.brings(0, -1), x.brings(0, 2), x.brings(0, Edges.LEAST), x.brings(5, Edges.MOST));
    }

    private static void strapsAnswers() {
        EDGES.sentence(31, "STRAPS; NONE.");
        EDGES.due("an empty PACK", new PedlarPack().straps(), -1);
        PedlarPack x = shelf(20, new int[] {1, 9}, new int[] {1, 9}, new int[] {1, 9}, new int[] {1, 9}, new int[] {1, 9}, new int[] {1, 8});
        EDGES.due("the last THING", x.straps(), 5);
        x.thing(5, 5, 9);
        EDGES.due("the first THING", x.straps(), 0);
    }
}
