/** Promises 6 to 12. */
public final class WantsTest {
    private static final Checks CHECKS = new Checks();

    public static void main(String[] args) {
        typeAndWipe();
        fault();
        wants();
        read();
        chanceAndShop();
        wrongNumbers();
        CHECKS.end();
    }

    private static void typeAndWipe() {
        PedlarPack x = new PedlarPack();
        CHECKS.due("wipe() of nothing", x.wipe(), 0);
        CHECKS.due("type(0)", x.type(0), 1);
        CHECKS.due("type(255)", x.type(255), 2);
        CHECKS.due("type(256)", x.type(256), -2);
        CHECKS.due("type(-1)", x.type(-1), -2);
        for (int wild : Checks.WILD) {
            CHECKS.due("type(wild)", x.type(wild), -2);
        }
        for (int n = 3; n <= 40; n++) {
            CHECKS.due("type(49)", x.type(49), n);
        }
        CHECKS.due("type into a full line", x.type(49), -4);
        CHECKS.due("type a bad one into a full line", x.type(256), -2);
        CHECKS.due("count(4)", x.count(4), 40);
        CHECKS.due("wipe()", x.wipe(), 40);
        CHECKS.due("wipe() again", x.wipe(), 0);
        CHECKS.due("type(49) after it", x.type(49), 1);
    }

    private static void fault() {
        Object[][] lines = {
            {"", 0}, {"1", 1}, {"1:", 2}, {"1:0", 3}, {"1:0=", 4}, {"1:0=1", 5}, {"1:0=1,", 6}, {"1:0=16,16,", 10},
            {"1:0=0,0,0", -1}, {"7:5=16,16,16", -1}, {"1:0=00,00,00", -1}, {"1:0=09,08,7", -1}, {"1:0=16,9,09", -1},
            {"0:0=1,1,1", 0}, {"8:0=1,1,1", 0}, {"x", 0}, {";", 0}, {"12:0=1,1,1", 1}, {"1;", 1}, {"1:6=1,1,1", 2},
            {"1::", 2}, {"1:00=1", 3}, {"1:0:1", 3}, {"1:0=,", 4}, {"1:0=x", 4}, {"1:0=17,1,1", 4}, {"1:0=99", 4},
            {"1:0=177", 4}, {"1:0=123", 6}, {"1:0=016,1,1", 6}, {"1:0=1;", 5}, {"1:0=1,2,1", 6}, {"1:0=1,2", 6},
            {"1:0=9,10,1", 6}, {"1:0=3,2", 7}, {"1:0=3,2;", 7}, {"1:0=3,2,3", 8}, {"1:0=3,2,10", 8}, {"1:0=3,2,1", -1},
            {"1:0=3,2,1,", 9}, {"1:0=3,2,1 ", 9}, {"1:0=16,16,123", 12}, {"1:0=3,2,123", 8}, {"1:0=3,2,1;", 10},
            {"1:0=3,2,1;;", 10}, {"1:0=3,2,1;8", 10}, {"1:0=3,2,1;2:1=16,15,14", -1}, {"1:0=3,2,1;2:1=16,15,16", 20},
            {"1:0=0,0,0;2:0=0,0,0;3:0=0,0,0;4:0=0,0,0", -1}, {"1:0=0,0,0;2:0=0,0,0;3:0=0,0,0;4:0=0,0,0;", 40},
            {"1:0=0,0,0;2:0=0,0,0;3:0=0,0,0;4:0=0,0,1", 38}, {"1:0=\u0080", 4}, {"1:0= 1,1,1", 4}};
        for (Object[] line : lines) {
            CHECKS.due("fault() of " + line[0], Checks.faultOf((String) line[0]), (Integer) line[1]);
        }
        PedlarPack x = new PedlarPack();
        x.type('1');
        x.type(':' + 128);
        CHECKS.due("fault() of a byte above 127", x.fault(), 1);
        CHECKS.due("fault() leaves the line", x.count(4), 2);
    }

    private static void wants() {
        PedlarPack x = new PedlarPack();
        CHECKS.due("wants() of an empty line", x.wants(), -3);
        Checks.type(x, "7:5=16,8,0;1:0=9,9,9;7:5=07,6,5");
        CHECKS.due("wants()", x.wants(), 3);
        CHECKS.due("the line is empty", x.count(4), 0);
        CHECKS.due("the later part holds", x.chance(7, 5, 0) * 100 + x.chance(7, 5, 1) * 10 + x.chance(7, 5, 2), 765);
        CHECKS.due("the middle part", x.chance(1, 0, 2), 9);
        CHECKS.due("count(3)", x.count(3), 6);
        Checks.type(x, "1:0=1,1,1;1:1=1,2");
        CHECKS.due("wants() with a fault", x.wants(), -3);
        CHECKS.due("the line stays", x.count(4), 17);
        CHECKS.due("no part of it holds", x.chance(1, 0, 0), 9);
        x.wipe();
        Checks.type(x, "1:0=0,0,0;2:0=1,0,0;3:0=1,0,0;4:0=1,0,0");
        CHECKS.due("wants() of as many parts as there is room for", x.wants(), 4);
        CHECKS.due("wants of none", x.chance(1, 0, 0), 0);
    }

    private static void read() {
        PedlarPack x = new PedlarPack();
        int[] items = new int[20];
        for (int i = 0; i < 20; i++) {
            items[i] = 16 - i % 3;
        }
        Checks.lay(x, 0, items);
        CHECKS.due("read() of more than six", x.read(0, 7), 6);
        for (int thing = 0; thing < 6; thing++) {
            for (int level = 0; level < 3; level++) {
                CHECKS.due("chance(7, " + thing + ", " + level + ")", x.chance(7, thing, level), 16 - level);
            }
        }
        CHECKS.due("chance elsewhere", x.chance(6, 0, 0), 0);
        Checks.lay(x, 0, 3, 2, 1, 5, 5, 5, 1, 2, 0, 1, 1, 1);
        CHECKS.due("read() up to what may not be", x.read(0, 7), 2);
        CHECKS.due("what was read", x.chance(7, 1, 2), 5);
        CHECKS.due("what was not", x.chance(7, 2, 0) + x.chance(7, 3, 0), 32);
        Checks.lay(x, 0, 0, 0, 0, 1, 1);
        CHECKS.due("read() of what is whole", x.read(0, 7), 1);
        CHECKS.due("read", x.chance(7, 0, 0), 0);
        CHECKS.due("not whole", x.chance(7, 1, 0), 5);
        int[][] none = {{17, 0, 0}, {-1, -1, -1}, {16, 16, 17}, {5, 5, -1}, {5, 6, 5}};
        for (int[] three : none) {
            Checks.lay(x, 0, three);
            CHECKS.due("read() of " + three[0] + ", " + three[1] + ", " + three[2], x.read(0, 1), 0);
        }
        x.sheet(0, 0, 3);
        x.put(0, 0, 0, 16);
        CHECKS.due("read() of bytes", x.read(0, 1), 1);
        CHECKS.due("as they are", x.chance(1, 0, 0), 16);
        x.sheet(0, 1, 0);
        CHECKS.due("read() of no items", x.read(0, 1), 0);
        CHECKS.due("read(-1, 1)", x.read(-1, 1), -2);
        CHECKS.due("read(4, 1)", x.read(4, 1), -2);
        CHECKS.due("read(1, 0): BAD ahead of NULL", x.read(1, 0), -2);
        CHECKS.due("read(1, 8): BAD ahead of NULL", x.read(1, 8), -2);
        CHECKS.due("no finding yet", x.count(8), 0);
        CHECKS.due("read() of a lost sheet", x.read(1, 1), -11);
        CHECKS.due("the finding", x.count(8), 1);
    }

    private static void chanceAndShop() {
        PedlarPack x = new PedlarPack();
        Checks.wants(x, "1:0=16,8,4;2:0=3,2,1;2:1=5,5,5");
        CHECKS.due("shop(0, 4)", x.shop(0, 4), 0);
        CHECKS.due("less what it takes", x.chance(1, 0, 0), 12);
        CHECKS.due("less all", x.chance(1, 0, 2), 0);
        CHECKS.due("not below 0", x.chance(2, 0, 0), 0);
        CHECKS.due("another thing", x.chance(2, 1, 0), 5);
        CHECKS.due("count(3)", x.count(3), 5);
        CHECKS.due("shop(0, 16)", x.shop(0, 16), 4);
        CHECKS.due("nothing left", x.chance(1, 0, 0), 0);
        Checks.wants(x, "1:0=10,9,8");
        CHECKS.due("shop(0, 0)", x.shop(0, 0), 16);
        CHECKS.due("wants told while it was open", x.chance(1, 0, 1), 9);
        CHECKS.due("and those ahead", x.chance(2, 0, 0), 3);
    }

    private static void wrongNumbers() {
        PedlarPack x = new PedlarPack();
        int[][] chances = {{0, 0, 0}, {8, 0, 0}, {1, -1, 0}, {1, 6, 0}, {1, 0, -1}, {1, 0, 3}};
        for (int[] a : chances) {
            CHECKS.due("chance(" + a[0] + ", " + a[1] + ", " + a[2] + ")", x.chance(a[0], a[1], a[2]), -2);
        }
        int[][] shops = {{-1, 1}, {6, 1}, {0, -1}, {0, 17}};
        for (int[] a : shops) {
            CHECKS.due("shop(" + a[0] + ", " + a[1] + ")", x.shop(a[0], a[1]), -2);
        }
        for (int wild : Checks.WILD) {
            CHECKS.due("chance(wild, 0, 0)", x.chance(wild, 0, 0), -2);
            CHECKS.due("chance(1, wild, 0)", x.chance(1, wild, 0), -2);
            CHECKS.due("chance(1, 0, wild)", x.chance(1, 0, wild), -2);
            CHECKS.due("shop(wild, 0)", x.shop(wild, 0), -2);
            CHECKS.due("shop(0, wild)", x.shop(0, wild), -2);
            CHECKS.due("read(wild, 1)", x.read(wild, 1), -2);
            CHECKS.due("read(0, wild)", x.read(0, wild), -2);
        }
        CHECKS.due("refusals changed nothing", x.shop(0, 0), 0);
    }
}
