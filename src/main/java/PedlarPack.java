/** What to carry in a pedlar's pack, what to ask at each door, and which way to go. */
public final class PedlarPack {
    public static final int NONE = -1, BAD = -2, NOT = -3, FULL = -4;

    private static final int THINGS = 6;
    private static final int COST = 0;
    private static final int WEIGHT = 1;
    private static final int LOSS = 2;
    private static final int PRICE = 3;
    private static final int FIGURES = 6;
    private static final int LEVELS = 3;
    private static final int NOTHING_SHOWN = 3;
    private static final int MOST_OF_EACH = 4;
    private static final int NUMBERS = MOST_OF_EACH + 1;

    private static final int HOME = 0;
    private static final int FARMS = 7;
    private static final int PLACES = FARMS + 1;
    private static final int NO_WAY = 1000;
    private static final int LONGEST_ROAD = 60;
    private static final int LONGEST_DAY = 200;
    private static final int HIGHEST_LIMIT = 100;
    private static final int ALL_FARMS = 127;
    private static final int SETS = 128;
    private static final int MOST_OPEN = 5;

    private static final int SURE = 16;
    private static final int LINE_ROOM = 40;
    private static final int SHEETS = 4;
    private static final int SHEET_ROOM = 40;
    private static final int FORMS = 3;
    private static final int LOST = -1;
    private static final int NULL_FOUND = 1;
    private static final int INDEX_FOUND = 2;
    private static final int CAST_FOUND = 3;
    private static final int STORE_FOUND = 4;
    private static final int SIZE_FOUND = 5;

    // 16 to the seventh: every mean along a ROW is a whole number of such parts,
    // so that means of ROWS of any length are compared and added as longs.
    private static final long UNIT = 268435456L;
    private static final int LEAST_INT = -2147483648;
    private static final long LEAST_LONG = -9223372036854775808L;
    private static final long NO_SUCH_ROW = LEAST_LONG;

    private final Goods goods = new Goods();
    private final Land land = new Land();
    private final Market market = new Market();
    private final Line line = new Line();
    private final Sheets sheets = new Sheets();
    private final Doors doors = new Doors(goods, market);
    private final Packer packer = new Packer(goods);
    private final int[] farmsInRow = new int[FARMS];
    private final int[] inPack = new int[THINGS];
    private final Rounds search = new Rounds(land, doors, packer, inPack);
    private int rowLength = 0;
    private int dayHours = 60;
    private int packLimit = 20;
    private int openFarms = ALL_FARMS;

    public PedlarPack() {
    }

    // ---- things, places

    public int thing(int thing, int what, int v) {
        if (!isThing(thing) || !within(what, 0, FIGURES - 1) || !goods.mayBe(thing, what, v)) {
            return BAD;
        }
        int was = goods.told[thing][what];
        goods.told[thing][what] = v;
        search.forget();
        return was;
    }

    public int road(int a, int b, int hours) {
        if (!isPlace(a) || !isPlace(b) || a == b || !within(hours, 0, LONGEST_ROAD)) {
            return BAD;
        }
        int was = land.roads[a][b];
        land.build(a, b, hours);
        search.forget();
        return was;
    }

    public int way(int a, int b) {
        return isPlace(a) && isPlace(b) ? land.ways[a][b] : BAD;
    }

    public int set(int what, int v) {
        int was = BAD;
        if (what == 0 && within(v, 1, LONGEST_DAY)) {
            was = dayHours;
            dayHours = v;
        } else if (what == 1 && within(v, 1, HIGHEST_LIMIT)) {
            was = packLimit;
            packLimit = v;
        } else if (what == 2 && within(v, 0, ALL_FARMS)) {
            was = openFarms;
            openFarms = v;
        }
        search.forget();
        return was;
    }

    // ---- wants

    public int type(int b) {
        if (!within(b, 0, 255)) {
            return BAD;
        }
        return line.append(b) ? line.length : FULL;
    }

    public int wipe() {
        int had = line.length;
        line.length = 0;
        return had;
    }

    public int fault() {
        return line.findFault();
    }

    public int wants() {
        if (line.findFault() != NONE) {
            return NOT;
        }
        int parts = line.tellTo(market);
        line.length = 0;
        search.forget();
        return parts;
    }

    public int read(int s, int farm) {
        if (!isSheet(s) || !isFarm(farm)) {
            return BAD;
        }
        if (sheets.isLost(s)) {
            return sheets.found(NULL_FOUND);
        }
        int told = 0;
        int whole = Math.min(sheets.sizes[s] / LEVELS, THINGS);
        int[] items = sheets.items[s];
        while (told < whole && market.take(farm, told, items, told * LEVELS)) {
            told++;
        }
        search.forget();
        return told;
    }

    public int chance(int farm, int thing, int level) {
        if (!isFarm(farm) || !isThing(thing) || !isLevel(level)) {
            return BAD;
        }
        return market.chanceOf(farm, thing, level);
    }

    public int shop(int thing, int v) {
        if (!isThing(thing) || !within(v, 0, SURE)) {
            return BAD;
        }
        int was = market.shops[thing];
        market.shops[thing] = v;
        search.forget();
        return was;
    }

    // ---- rows, packs

    public int row(int s) {
        if (!isSheet(s)) {
            return BAD;
        }
        if (sheets.isLost(s)) {
            return sheets.found(NULL_FOUND);
        }
        int size = sheets.sizes[s];
        if (!areFarms(sheets.items[s], size)) {
            return NOT;
        }
        for (int i = 0; i < size; i++) {
            farmsInRow[i] = sheets.items[s][i];
        }
        rowLength = size;
        return size;
    }

    public int pack(int s) {
        if (!isSheet(s)) {
            return BAD;
        }
        if (sheets.isLost(s)) {
            return sheets.found(NULL_FOUND);
        }
        if (sheets.sizes[s] < THINGS) {
            return sheets.found(INDEX_FOUND);
        }
        int[] items = sheets.items[s];
        for (int thing = 0; thing < THINGS; thing++) {
            if (!within(items[thing], 0, MOST_OF_EACH)) {
                return NOT;
            }
        }
        for (int thing = 0; thing < THINGS; thing++) {
            inPack[thing] = items[thing];
        }
        return goods.weightOf(inPack);
    }

    public int judged() {
        if (goods.weightOf(inPack) > packLimit) {
            return 1;
        }
        return hours() > dayHours ? 2 : 0;
    }

    public int hours() {
        return land.hoursOf(farmsInRow, rowLength);
    }

    public long sold(int thing, int k, int level, int j, int what) {
        if (!isThing(thing) || !isNumber(k) || !isLevel(level) || !within(j, NONE, MOST_OF_EACH) || !isTerm(what)) {
            return refusal(BAD);
        }
        doors.sell(thing, k, level, farmsInRow, rowLength);
        return term(j == NONE ? doors.meanSold() : doors.justSold[j], UNIT, what);
    }

    // ---- asked well

    public int ask(int thing, int i, int k) {
        if (!isThing(thing) || !within(i, 0, rowLength - 1) || !within(k, 1, MOST_OF_EACH)) {
            return BAD;
        }
        doors.goAlong(farmsInRow, rowLength);
        return doors.bestLevel(rowLength - i, farmsInRow[i], thing, k);
    }

    public long value(int thing, int i, int k, int what) {
        if (!isThing(thing) || !within(i, 0, rowLength) || !isNumber(k) || !isTerm(what)) {
            return refusal(BAD);
        }
        doors.goAlong(farmsInRow, rowLength);
        return term(doors.worth[rowLength - i][thing * NUMBERS + k], UNIT, what);
    }

    public long gain(int what) {
        if (!isTerm(what)) {
            return refusal(BAD);
        }
        weighUp();
        return term(packer.gainOf(inPack), UNIT, what);
    }

    public int best(int thing) {
        if (!within(thing, NONE, THINGS - 1)) {
            return BAD;
        }
        weighUp();
        packer.chooseBest(packLimit);
        return numberOrWeight(packer.best, thing);
    }

    public long load(int which, int what) {
        if (!within(which, 0, 2) || !isTerm(what)) {
            return refusal(BAD);
        }
        weighUp();
        return loadTerm(which, what);
    }

    public int loaded(int thing) {
        if (!within(thing, NONE, THINGS - 1)) {
            return BAD;
        }
        weighUp();
        packer.chooseLoaded(packLimit);
        return numberOrWeight(packer.loaded, thing);
    }

    // ---- rounds

    public int round(int i) {
        if (i < NONE) {
            return BAD;
        }
        if (tooManyOpen()) {
            return FULL;
        }
        search.findRounds(openFarms, dayHours, packLimit);
        int code = search.codes[search.bestSet()];
        int farms = farmsOf(code);
        if (i == NONE) {
            return farms;
        }
        return i < farms ? farmOf(code, farms - 1 - i) : NONE;
    }

    public long rounds(int what) {
        if (!isTerm(what)) {
            return refusal(BAD);
        }
        if (tooManyOpen()) {
            return refusal(FULL);
        }
        search.findRounds(openFarms, dayHours, packLimit);
        return term(search.most[search.bestSet()], UNIT, what);
    }

    public int onward(int place, int hours) {
        if (!isPlace(place) || !within(hours, 0, LONGEST_DAY)) {
            return BAD;
        }
        if (tooManyOpen()) {
            return FULL;
        }
        search.findOnward(openFarms, dayHours, place, hours);
        int set = search.bestSet();
        int farms = farmsOf(search.codes[set]);
        return farms > 0 ? farmOf(search.codes[set], farms - 1) : NONE;
    }

    public int trust(int thing, int i, int k, int level, int q) {
        if (!isThing(thing) || !within(i, 0, rowLength - 1) || !within(k, 1, MOST_OF_EACH)
                || !isLevel(level) || !within(q, 0, SURE)) {
            return BAD;
        }
        doors.goAlong(farmsInRow, rowLength);
        int farms = rowLength - i;
        int index = thing * NUMBERS + k;
        long paid = q * goods.told[thing][PRICE + level] * (UNIT / SURE);
        return paid + doors.worth[farms - 1][index - 1] > doors.worth[farms][index] ? 1 : 0;
    }

    public int two(int which) {
        if (!within(which, 0, 1)) {
            return BAD;
        }
        if (tooManyOpen()) {
            return FULL;
        }
        search.findRounds(openFarms, dayHours, packLimit);
        search.part(openFarms);
        return which == 0 ? search.firstSet : search.secondSet;
    }

    public long both(int what) {
        if (!isTerm(what)) {
            return refusal(BAD);
        }
        if (tooManyOpen()) {
            return refusal(FULL);
        }
        search.findRounds(openFarms, dayHours, packLimit);
        search.part(openFarms);
        return term(search.bothGain, UNIT, what);
    }

    public long brings(int thing, int what) {
        if (!isThing(thing) || !isTerm(what)) {
            return refusal(BAD);
        }
        weighUp();
        long with = packer.mostGain(packLimit, NONE);
        return term(with - packer.mostGain(packLimit, thing), UNIT, what);
    }

    public int straps() {
        weighUp();
        packer.chooseBest(packLimit);
        return packer.leastBringing(packLimit);
    }

    // ---- sheets

    public int sheet(int s, int form, int n) {
        if (!isSheet(s) || !isForm(form) || n > SHEET_ROOM) {
            return BAD;
        }
        if (n < 0) {
            return sheets.found(SIZE_FOUND);
        }
        sheets.renew(s, form, n);
        return n;
    }

    public int lose(int s) {
        if (!isSheet(s)) {
            return BAD;
        }
        if (sheets.isLost(s)) {
            return sheets.found(NULL_FOUND);
        }
        int had = sheets.sizes[s];
        sheets.sizes[s] = LOST;
        return had;
    }

    public int put(int s, int form, int i, int v) {
        if (!isSheet(s) || !isForm(form)) {
            return BAD;
        }
        int finding = sheets.findingAt(s, form, i);
        if (finding != 0) {
            return sheets.found(finding);
        }
        sheets.lay(s, i, v);
        return 1;
    }

    public int get(int s, int form, int i) {
        if (!isSheet(s) || !isForm(form)) {
            return LEAST_INT;
        }
        int finding = sheets.findingAt(s, form, i);
        if (finding != 0) {
            sheets.found(finding);
            return LEAST_INT;
        }
        return sheets.items[s][i];
    }

    public int copy(int s, int i, int t, int j, int n) {
        if (!isSheet(s) || !isSheet(t)) {
            return BAD;
        }
        if (sheets.isLost(s) || sheets.isLost(t)) {
            return sheets.found(NULL_FOUND);
        }
        if (sheets.forms[s] != sheets.forms[t]) {
            return sheets.found(STORE_FOUND);
        }
        if (!sheets.hasItems(s, i, n) || !sheets.hasItems(t, j, n)) {
            return sheets.found(INDEX_FOUND);
        }
        System.arraycopy(sheets.items[s], i, sheets.items[t], j, n);
        return 1;
    }

    public int write(int s) {
        if (!isSheet(s)) {
            return BAD;
        }
        if (sheets.isLost(s)) {
            return sheets.found(NULL_FOUND);
        }
        weighUp();
        packer.chooseBest(packLimit);
        int written = Math.min(sheets.sizes[s], THINGS);
        for (int i = 0; i < written; i++) {
            sheets.lay(s, i, packer.best[i]);
        }
        return written;
    }

    public int count(int what) {
        switch (what) {
            case 0:
                return rowLength;
            case 1:
                return goods.weightOf(inPack);
            case 2:
                return land.countRoads();
            case 3:
                return market.countChances();
            case 4:
                return line.length;
            case 5:
                return dayHours;
            case 6:
                return packLimit;
            case 7:
                return openFarms;
            case 8:
                return sheets.latestFinding;
            default:
                return BAD;
        }
    }

    public long digest() {
        weighUp();
        packer.chooseBest(packLimit);
        packer.chooseLoaded(packLimit);
        long h = 17;
        for (int what = 0; what < 8; what++) {
            h = 31 * h + count(what);
        }
        h = 31 * h + fault();
        for (int thing = 0; thing < THINGS; thing++) {
            for (int what = 0; what < FIGURES; what++) {
                h = 31 * h + goods.told[thing][what];
            }
            h = 31 * h + packer.best[thing];
            h = 31 * h + packer.loaded[thing];
        }
        h = 31 * h + hours();
        h = 31 * h + judged();
        h = 31 * h + term(packer.gainOf(inPack), UNIT, 0);
        h = 31 * h + term(packer.gainOf(inPack), UNIT, 1);
        for (int which = 0; which < 3; which++) {
            h = 31 * h + loadTerm(which, 0);
            h = 31 * h + loadTerm(which, 1);
        }
        return 31 * h + packer.leastBringing(packLimit);
    }

    // ---- what the acts share

    private static boolean within(int v, int least, int most) {
        return v >= least && v <= most;
    }

    private static boolean isThing(int thing) {
        return within(thing, 0, THINGS - 1);
    }

    private static boolean isLevel(int level) {
        return within(level, 0, LEVELS - 1);
    }

    private static boolean isNumber(int k) {
        return within(k, 0, MOST_OF_EACH);
    }

    private static boolean isPlace(int place) {
        return within(place, HOME, FARMS);
    }

    private static boolean isFarm(int farm) {
        return within(farm, 1, FARMS);
    }

    private static boolean isSheet(int s) {
        return within(s, 0, SHEETS - 1);
    }

    private static boolean isForm(int form) {
        return within(form, 0, FORMS - 1);
    }

    private static boolean isTerm(int what) {
        return within(what, 0, 1);
    }

    private static long refusal(int answer) {
        return LEAST_LONG - answer;
    }

    /** The FRACTION's part above (what = 0) or below (1), in lowest terms; below is above 0. */
    private static long term(long above, long below, int what) {
        long shared = sharedDivisor(Math.abs(above), below);
        if (shared == 0) {
            return 0;
        }
        return what == 0 ? above / shared : below / shared;
    }

    private static long sharedDivisor(long a, long b) {
        // Euclid's steps on two longs are fewer than a hundred.
        for (int step = 0; step < 200 && b != 0; step++) {
            long rest = a % b;
            a = b;
            b = rest;
        }
        return a;
    }

    private static boolean areFarms(int[] items, int size) {
        if (size > FARMS) {
            return false;
        }
        int seen = 0;
        for (int i = 0; i < size; i++) {
            if (!isFarm(items[i]) || (seen >> items[i] & 1) == 1) {
                return false;
            }
            seen |= 1 << items[i];
        }
        return true;
    }

    /** How many FARMS a ROW's code (see Rounds) has. */
    private static int farmsOf(int code) {
        int farms = 0;
        while (farms < MOST_OPEN && code >> 3 * farms > 0) {
            farms++;
        }
        return farms;
    }

    private static int farmOf(int code, int fromLast) {
        return code >> 3 * fromLast & 7;
    }

    private boolean tooManyOpen() {
        return Integer.bitCount(openFarms) > MOST_OPEN;
    }

    private void weighUp() {
        doors.goAlong(farmsInRow, rowLength);
        packer.weighGains(doors.worth[rowLength]);
    }

    private int numberOrWeight(int[] chosen, int thing) {
        return thing == NONE ? goods.weightOf(chosen) : chosen[thing];
    }

    private long loadTerm(int which, int what) {
        if (which == 0) {
            return term(packer.mostGain(packLimit, NONE), UNIT, what);
        }
        if (which == 1) {
            packer.chooseLoaded(packLimit);
            return term(packer.gainOf(packer.loaded), UNIT, what);
        }
        packer.findBound(packLimit);
        return term(packer.boundAbove, packer.boundBelow, what);
    }

    /** What is told of each THING, as thing() numbers it. */
    private static final class Goods {
        final int[][] told = new int[THINGS][FIGURES];

        Goods() {
            for (int thing = 0; thing < THINGS; thing++) {
                told[thing][COST] = 1;
                told[thing][WEIGHT] = 1;
                for (int level = 0; level < LEVELS; level++) {
                    told[thing][PRICE + level] = 2 + level;
                }
            }
        }

        boolean mayBe(int thing, int what, int v) {
            if (what == WEIGHT) {
                return within(v, 1, 20);
            }
            int least = what > PRICE ? told[thing][what - 1] : 0;
            int most = what >= PRICE && what < FIGURES - 1 ? told[thing][what + 1] : 99;
            return within(v, least, most);
        }

        int weightOf(int[] numbers) {
            int weight = 0;
            for (int thing = 0; thing < THINGS; thing++) {
                weight += numbers[thing] * told[thing][WEIGHT];
            }
            return weight;
        }
    }

    /** ROADS and the WAYS that they make. */
    private static final class Land {
        final int[][] roads = new int[PLACES][PLACES];
        final int[][] ways = new int[PLACES][PLACES];

        Land() {
            findWays();
        }

        void build(int a, int b, int hours) {
            roads[a][b] = hours;
            roads[b][a] = hours;
            findWays();
        }

        private void findWays() {
            for (int a = 0; a < PLACES; a++) {
                for (int b = 0; b < PLACES; b++) {
                    ways[a][b] = a == b ? 0 : roads[a][b] > 0 ? roads[a][b] : NO_WAY;
                }
            }
            for (int over = 0; over < PLACES; over++) {
                for (int a = 0; a < PLACES; a++) {
                    for (int b = 0; b < PLACES; b++) {
                        ways[a][b] = Math.min(ways[a][b], ways[a][over] + ways[over][b]);
                    }
                }
            }
        }

        int hoursOf(int[] farms, int length) {
            int hours = 0;
            int place = HOME;
            for (int i = 0; i < length; i++) {
                hours += ways[place][farms[i]];
                place = farms[i];
            }
            return hours + ways[place][HOME];
        }

        int countRoads() {
            int built = 0;
            for (int a = 0; a < PLACES; a++) {
                for (int b = 0; b < a; b++) {
                    built += roads[a][b] > 0 ? 1 : 0;
                }
            }
            return built;
        }
    }

    /** WANTS and SHOPS. */
    private static final class Market {
        private final int[][] chances = new int[PLACES * THINGS][LEVELS];
        final int[] shops = new int[THINGS];

        int chanceOf(int farm, int thing, int level) {
            int chance = chances[farm * THINGS + thing][level];
            return chance > shops[thing] ? chance - shops[thing] : 0;
        }

        /** Takes three CHANCES that stand from a place on; false, and nothing taken, where they may not be. */
        boolean take(int farm, int thing, int[] from, int place) {
            int ahead = SURE;
            for (int level = 0; level < LEVELS; level++) {
                if (!within(from[place + level], 0, ahead)) {
                    return false;
                }
                ahead = from[place + level];
            }
            for (int level = 0; level < LEVELS; level++) {
                chances[farm * THINGS + thing][level] = from[place + level];
            }
            return true;
        }

        int countChances() {
            int above = 0;
            for (int farm = 1; farm <= FARMS; farm++) {
                for (int thing = 0; thing < THINGS; thing++) {
                    for (int level = 0; level < LEVELS; level++) {
                        above += chanceOf(farm, thing, level) > 0 ? 1 : 0;
                    }
                }
            }
            return above;
        }
    }

    /** The LINE, and the part of it that was read last. */
    private static final class Line {
        private final int[] bytes = new int[LINE_ROOM];
        private final int[] partChances = new int[LEVELS];
        private int partFarm = 0;
        private int partThing = 0;
        private int partEnd = 0;
        int length = 0;

        boolean append(int b) {
            if (length >= LINE_ROOM) {
                return false;
            }
            bytes[length] = b;
            length++;
            return true;
        }

        int findFault() {
            int place = 0;
            // A part has more bytes than one, so there are fewer parts than bytes.
            for (int part = 0; part < LINE_ROOM; part++) {
                int fault = readPart(place);
                if (fault != NONE || partEnd >= length) {
                    return fault;
                }
                place = partEnd + 1;
            }
            return place;
        }

        int tellTo(Market market) {
            int parts = 0;
            int place = 0;
            while (parts < LINE_ROOM && place < length && readPart(place) == NONE) {
                market.take(partFarm, partThing, partChances, 0);
                parts++;
                place = partEnd + 1;
            }
            return parts;
        }

        /** Reads the part from a place on: its FAULT, or NONE. */
        private int readPart(int start) {
            partFarm = figureAt(start);
            if (!isFarm(partFarm)) {
                return start;
            }
            if (!isAt(start + 1, ':')) {
                return start + 1;
            }
            partThing = figureAt(start + 2);
            if (!isThing(partThing)) {
                return start + 2;
            }
            if (!isAt(start + 3, '=')) {
                return start + 3;
            }
            return readChances(start + 4);
        }

        private int readChances(int start) {
            int place = start;
            int ahead = SURE;
            for (int level = 0; level < LEVELS; level++) {
                if (level > 0 && !isAt(place, ',')) {
                    return place;
                }
                place += level > 0 ? 1 : 0;
                int number = figureAt(place);
                int second = figureAt(place + 1);
                if (number >= 0 && second >= 0) {
                    number = 10 * number + second;
                }
                if (!within(number, 0, ahead)) {
                    return place;
                }
                partChances[level] = number;
                ahead = number;
                place += second >= 0 ? 2 : 1;
            }
            partEnd = place;
            return place >= length || isAt(place, ';') ? NONE : place;
        }

        private boolean isAt(int place, char sign) {
            return place < length && bytes[place] == sign;
        }

        /** The figure at a place; NONE: there is none. */
        private int figureAt(int place) {
            return place < length && within(bytes[place], '0', '9') ? bytes[place] - '0' : NONE;
        }
    }

    /** SHEETS, each held as ints that have been cut to its FORM. */
    private static final class Sheets {
        final int[][] items = new int[SHEETS][SHEET_ROOM];
        final int[] forms = new int[SHEETS];
        final int[] sizes = new int[SHEETS];
        int latestFinding = 0;

        Sheets() {
            for (int s = 0; s < SHEETS; s++) {
                sizes[s] = LOST;
            }
        }

        boolean isLost(int s) {
            return sizes[s] == LOST;
        }

        int found(int number) {
            latestFinding = number;
            return -10 - number;
        }

        void renew(int s, int form, int n) {
            forms[s] = form;
            sizes[s] = n;
            for (int i = 0; i < SHEET_ROOM; i++) {
                items[s][i] = 0;
            }
        }

        /** What stands against item i, treated as of a FORM; 0: nothing. */
        int findingAt(int s, int form, int i) {
            if (isLost(s)) {
                return NULL_FOUND;
            }
            if (forms[s] != form) {
                return CAST_FOUND;
            }
            return within(i, 0, sizes[s] - 1) ? 0 : INDEX_FOUND;
        }

        boolean hasItems(int s, int from, int n) {
            return from >= 0 && n >= 0 && from <= sizes[s] && n <= sizes[s] - from;
        }

        void lay(int s, int i, int v) {
            int form = forms[s];
            items[s][i] = form == 0 ? (byte) v : form == 1 ? (short) v : v;
        }
    }

    /** What is sold and what comes in, door by door; means are told in parts of UNIT. */
    private static final class Doors {
        private final Goods goods;
        private final Market market;
        // VALUE of k of a THING (at thing * NUMBERS + k) with so many FARMS still to come.
        final long[][] worth = new long[PLACES][THINGS * NUMBERS];
        final long[] justSold = new long[NUMBERS];

        Doors(Goods goods, Market market) {
            this.goods = goods;
            this.market = market;
        }

        void goAlong(int[] farms, int length) {
            comeHome();
            for (int toCome = 1; toCome <= length; toCome++) {
                callAt(toCome, farms[length - toCome]);
            }
        }

        /** With no FARM still to come. */
        void comeHome() {
            for (int thing = 0; thing < THINGS; thing++) {
                long left = (goods.told[thing][COST] - goods.told[thing][LOSS]) * UNIT;
                for (int k = 0; k < NUMBERS; k++) {
                    worth[0][thing * NUMBERS + k] = k * left;
                }
            }
        }

        /** At a FARM, so many to come with it; those behind it must have been called at. */
        void callAt(int toCome, int farm) {
            for (int thing = 0; thing < THINGS; thing++) {
                worth[toCome][thing * NUMBERS] = 0;
                for (int k = 1; k < NUMBERS; k++) {
                    int level = bestLevel(toCome, farm, thing, k);
                    worth[toCome][thing * NUMBERS + k] = meanAsked(toCome, farm, thing, k, level);
                }
            }
        }

        int bestLevel(int toCome, int farm, int thing, int k) {
            int best = 0;
            long most = meanAsked(toCome, farm, thing, k, 0);
            for (int level = 1; level <= NOTHING_SHOWN; level++) {
                long mean = meanAsked(toCome, farm, thing, k, level);
                if (mean > most) {
                    most = mean;
                    best = level;
                }
            }
            return best;
        }

        private long meanAsked(int toCome, int farm, int thing, int k, int level) {
            long[] behind = worth[toCome - 1];
            int index = thing * NUMBERS + k;
            if (level == NOTHING_SHOWN) {
                return behind[index];
            }
            int chance = market.chanceOf(farm, thing, level);
            long bought = goods.told[thing][PRICE + level] * UNIT + behind[index - 1];
            return (chance * bought + (SURE - chance) * behind[index]) / SURE;
        }

        /** With what chance just 0, 1, .. of a THING are sold: into justSold. */
        void sell(int thing, int k, int level, int[] farms, int length) {
            for (int j = 0; j < NUMBERS; j++) {
                justSold[j] = j == 0 ? UNIT : 0;
            }
            for (int i = 0; i < length; i++) {
                long chance = market.chanceOf(farms[i], thing, level);
                for (int j = k - 1; j >= 0; j--) {
                    long bought = justSold[j] * chance / SURE;
                    justSold[j + 1] += bought;
                    justSold[j] -= bought;
                }
            }
        }

        long meanSold() {
            long mean = 0;
            for (int j = 1; j < NUMBERS; j++) {
                mean += j * justSold[j];
            }
            return mean;
        }
    }

    /** Packs for one ROW, by the GAIN of each number of each THING. */
    private static final class Packer {
        private static final int STEPS = THINGS * MOST_OF_EACH;
        private final Goods goods;
        private final long[][] gains = new long[THINGS][NUMBERS];
        // The least number of a THING with its most GAIN: more of it is never better.
        private final int[] peaks = new int[THINGS];
        // The most GAIN by the THINGS from one on, not heavier than a weight.
        private final long[][] mostFrom = new long[THINGS + 1][HIGHEST_LIMIT + 1];
        private final boolean[] stepTaken = new boolean[STEPS];
        final int[] best = new int[THINGS];
        final int[] loaded = new int[THINGS];
        long boundAbove = 0;
        long boundBelow = 1;

        Packer(Goods goods) {
            this.goods = goods;
        }

        void weighGains(long[] worths) {
            for (int thing = 0; thing < THINGS; thing++) {
                peaks[thing] = 0;
                for (int k = 0; k < NUMBERS; k++) {
                    gains[thing][k] = worths[thing * NUMBERS + k] - k * goods.told[thing][COST] * UNIT;
                    if (gains[thing][k] > gains[thing][peaks[thing]]) {
                        peaks[thing] = k;
                    }
                }
            }
        }

        long gainOf(int[] numbers) {
            long gain = 0;
            for (int thing = 0; thing < THINGS; thing++) {
                gain += gains[thing][numbers[thing]];
            }
            return gain;
        }

        /** The GAIN of a pack without any LIMIT: no pack has more. */
        long peakGain() {
            return gainOf(peaks);
        }

        boolean peaksFit(int limit) {
            return goods.weightOf(peaks) <= limit;
        }

        /** GAIN of the best pack, or of the best one without a THING (NONE: with all). */
        long mostGain(int limit, int without) {
            for (int thing = THINGS - 1; thing >= 0; thing--) {
                fillMost(thing, limit, thing == without ? 0 : peaks[thing]);
            }
            return mostFrom[0][limit];
        }

        private void fillMost(int thing, int limit, int top) {
            int weight = goods.told[thing][WEIGHT];
            long[] others = mostFrom[thing + 1];
            for (int room = 0; room <= limit; room++) {
                long most = others[room];
                for (int k = 1; k <= top && k * weight <= room; k++) {
                    most = Math.max(most, gains[thing][k] + others[room - k * weight]);
                }
                mostFrom[thing][room] = most;
            }
        }

        void chooseBest(int limit) {
            long most = mostGain(limit, NONE);
            int room = 0;
            while (room < limit && mostFrom[0][room] < most) {
                room++;
            }
            for (int thing = 0; thing < THINGS; thing++) {
                best[thing] = leastNumber(thing, room);
                room -= best[thing] * goods.told[thing][WEIGHT];
            }
        }

        /** The least number of a THING with which what is most from it on can still be reached. */
        private int leastNumber(int thing, int room) {
            int weight = goods.told[thing][WEIGHT];
            for (int k = 0; k <= peaks[thing] && k * weight <= room; k++) {
                if (gains[thing][k] + mostFrom[thing + 1][room - k * weight] == mostFrom[thing][room]) {
                    return k;
                }
            }
            return 0;
        }

        private long stepGain(int thing, int k) {
            return gains[thing][k + 1] - gains[thing][k];
        }

        void chooseLoaded(int limit) {
            int room = limit;
            for (int thing = 0; thing < THINGS; thing++) {
                loaded[thing] = 0;
            }
            for (int step = 0; step < STEPS; step++) {
                int thing = nextLoaded(room);
                if (thing == NONE) {
                    return;
                }
                loaded[thing]++;
                room -= goods.told[thing][WEIGHT];
            }
        }

        private int nextLoaded(int room) {
            int chosen = NONE;
            long gain = 0;
            int weight = 1;
            for (int thing = 0; thing < THINGS; thing++) {
                int own = goods.told[thing][WEIGHT];
                if (loaded[thing] < MOST_OF_EACH && own <= room) {
                    long brought = stepGain(thing, loaded[thing]);
                    if (brought * weight > gain * own) {
                        chosen = thing;
                        gain = brought;
                        weight = own;
                    }
                }
            }
            return chosen;
        }

        /** BOUND: into boundAbove and boundBelow. */
        void findBound(int limit) {
            for (int step = 0; step < STEPS; step++) {
                stepTaken[step] = false;
            }
            boundAbove = 0;
            boundBelow = UNIT;
            int room = limit;
            for (int count = 0; count < STEPS && room > 0; count++) {
                int step = nextStep();
                if (step == NONE) {
                    return;
                }
                stepTaken[step] = true;
                long gain = stepGain(step / MOST_OF_EACH, step % MOST_OF_EACH);
                int weight = goods.told[step / MOST_OF_EACH][WEIGHT];
                if (weight <= room) {
                    boundAbove += gain;
                } else {
                    boundAbove = boundAbove * weight + gain * room;
                    boundBelow = UNIT * weight;
                }
                room -= weight;
            }
        }

        private int nextStep() {
            int chosen = NONE;
            long gain = 0;
            int weight = 1;
            for (int step = 0; step < STEPS; step++) {
                int own = goods.told[step / MOST_OF_EACH][WEIGHT];
                long brought = stepGain(step / MOST_OF_EACH, step % MOST_OF_EACH);
                if (!stepTaken[step] && brought * weight > gain * own) {
                    chosen = step;
                    gain = brought;
                    weight = own;
                }
            }
            return chosen;
        }

        /** STRAPS, once the best pack has been chosen. */
        int leastBringing(int limit) {
            int chosen = NONE;
            long least = 0;
            int weight = 1;
            long most = gainOf(best);
            for (int thing = 0; thing < THINGS; thing++) {
                int own = best[thing] * goods.told[thing][WEIGHT];
                if (own > 0) {
                    long brought = most - mostGain(limit, thing);
                    if (chosen == NONE || brought * weight < least * own) {
                        chosen = thing;
                        least = brought;
                        weight = own;
                    }
                }
            }
            return chosen;
        }
    }

    /**
     * The best ROW through each set of FARMS. A ROW's code has its FARMS as figures of base 8, the first one
     * highest: as none is 0, the lesser code has fewer FARMS, or as many and is the lesser ROW.
     */
    private static final class Rounds {
        private final Land land;
        private final Doors doors;
        private final Packer packer;
        private final int[] inPack;
        final long[] most = new long[SETS];
        final int[] codes = new int[SETS];
        private boolean roundsKnown = false;
        private boolean withPack = false;
        private int allowed = 0;
        private int start = HOME;
        private int hoursLeft = 0;
        private int limit = 0;
        int firstSet = 0;
        int secondSet = 0;
        long bothGain = 0;

        Rounds(Land land, Doors doors, Packer packer, int[] inPack) {
            this.land = land;
            this.doors = doors;
            this.packer = packer;
            this.inPack = inPack;
        }

        /** Something has changed by which ROWS are judged. */
        void forget() {
            roundsKnown = false;
        }

        /** From HOME to HOME, each ROW with its best pack. */
        void findRounds(int open, int day, int packLimit) {
            if (roundsKnown) {
                return;
            }
            withPack = false;
            allowed = open;
            start = HOME;
            hoursLeft = day;
            limit = packLimit;
            clear();
            lengthen(0, 0, HOME, 0, 0);
            roundsKnown = true;
        }

        /** From a PLACE to HOME, with the pack that is. */
        void findOnward(int open, int day, int place, int gone) {
            roundsKnown = false;
            withPack = true;
            allowed = place == HOME ? open : open & ~bitOf(place);
            start = place;
            hoursLeft = day - gone;
            clear();
            lengthen(0, 0, HOME, 0, 0);
        }

        private void clear() {
            for (int set = 0; set < SETS; set++) {
                most[set] = NO_SUCH_ROW;
                codes[set] = 0;
            }
            doors.comeHome();
        }

        /** Judges a ROW, then all that have it as their end: those share what is to come behind it. */
        private void lengthen(int length, int set, int first, int hours, int code) {
            // A detour is never quicker than the WAY, so what is too long stays too long.
            if (land.ways[start][first] + hours > hoursLeft) {
                return;
            }
            judge(length, set, code);
            for (int farm = 1; farm <= FARMS && length < MOST_OPEN; farm++) {
                int bit = bitOf(farm);
                if ((allowed & bit) != 0 && (set & bit) == 0) {
                    doors.callAt(length + 1, farm);
                    int longer = hours + land.ways[farm][first];
                    lengthen(length + 1, set | bit, farm, longer, code + (farm << 3 * length));
                }
            }
        }

        private void judge(int length, int set, int code) {
            long[] worths = doors.worth[length];
            if (withPack) {
                keep(set, code, valueOfPack(worths));
                return;
            }
            packer.weighGains(worths);
            long peak = packer.peakGain();
            if (isBetter(set, code, peak)) {
                keep(set, code, packer.peaksFit(limit) ? peak : packer.mostGain(limit, NONE));
            }
        }

        private long valueOfPack(long[] worths) {
            long sum = 0;
            for (int thing = 0; thing < THINGS; thing++) {
                sum += worths[thing * NUMBERS + inPack[thing]];
            }
            return sum;
        }

        private boolean isBetter(int set, int code, long amount) {
            return amount > most[set] || amount == most[set] && code < codes[set];
        }

        private void keep(int set, int code, long amount) {
            if (isBetter(set, code, amount)) {
                most[set] = amount;
                codes[set] = code;
            }
        }

        /** The set with the best ROW; the empty one where there is no ROW at all. */
        int bestSet() {
            int best = 0;
            for (int set = 1; set < SETS; set++) {
                if (most[set] != NO_SUCH_ROW && isBetter(best, codes[set], most[set])) {
                    best = set;
                }
            }
            return best;
        }

        /** TWO: into firstSet, secondSet and bothGain. */
        void part(int open) {
            firstSet = 0;
            secondSet = 0;
            bothGain = 0;
            for (int first = 0; first < SETS; first++) {
                if ((first & ~open) == 0 && most[first] != NO_SUCH_ROW) {
                    partWith(first, open & ~first);
                }
            }
        }

        private void partWith(int first, int rest) {
            for (int second = 0; second < SETS; second++) {
                if ((second & ~rest) == 0 && most[second] != NO_SUCH_ROW && most[first] + most[second] > bothGain) {
                    firstSet = first;
                    secondSet = second;
                    bothGain = most[first] + most[second];
                }
            }
        }

        private static int bitOf(int farm) {
            return 1 << farm - 1;
        }
    }
}
