/** Counts the answers that are not as due, and what tests say again and again to a PedlarPack. */
final class Checks {
    static final long LONG_BAD = Long.MIN_VALUE + 2;
    static final long LONG_FULL = Long.MIN_VALUE + 4;
    static final int[] WILD = {Integer.MIN_VALUE, Integer.MIN_VALUE + 1, -1000, -2, 1000, Integer.MAX_VALUE - 1, Integer.MAX_VALUE};
    private int wrong = 0;
    private int seen = 0;

    void due(String call, long got, long want) {
        seen++;
        if (got != want) {
            wrong++;
            System.out.println(call + " answered " + got + ", due is " + want);
        }
    }

    void fraction(String call, long above, long below, long wantAbove, long wantBelow) {
        due(call + " above", above, wantAbove);
        due(call + " below", below, wantBelow);
    }

    void end() {
        System.out.println(wrong == 0 ? seen + " answers are as due" : wrong + " of " + seen + " answers are not as due");
        if (wrong != 0) {
            System.exit(1);
        }
    }

    static void type(PedlarPack x, String text) {
        for (int i = 0; i < text.length(); i++) {
            x.type(text.charAt(i));
        }
    }

    static int faultOf(String text) {
        PedlarPack x = new PedlarPack();
        type(x, text);
        return x.fault();
    }

    /** Part by part, so that a text may be longer than a LINE. */
    static void wants(PedlarPack x, String text) {
        for (String part : text.split(";")) {
            type(x, part);
            if (x.wants() != 1) {
                throw new IllegalStateException("the test itself tells WANTS with a FAULT: " + part);
            }
        }
    }

    /** SHEET s becomes ints with these items. */
    static void lay(PedlarPack x, int s, int... items) {
        x.sheet(s, 2, items.length);
        for (int i = 0; i < items.length; i++) {
            x.put(s, 2, i, items[i]);
        }
    }

    static int row(PedlarPack x, int... farms) {
        lay(x, 3, farms);
        return x.row(3);
    }

    static int pack(PedlarPack x, int... numbers) {
        lay(x, 3, numbers);
        return x.pack(3);
    }

    /** COST, WEIGHT, LOSS and three PRICES of a THING that has the first ones still. */
    static void thing(PedlarPack x, int thing, int... figures) {
        x.thing(thing, 3, 0);
        x.thing(thing, 4, 0);
        for (int what = 5; what >= 0; what--) {
            x.thing(thing, what, figures[what]);
        }
    }
}
