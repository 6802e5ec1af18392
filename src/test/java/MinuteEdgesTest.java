/** The edges of ==== 2. and of promises 6 to 14: tubs, knights, laws, doings by call, minutes. */
public final class MinuteEdgesTest {
    private static final int NONE = BathOrders.NONE;
    private static final long ERROR = Long.MIN_VALUE;
    /** Numbers that are neither of six nor of sixty, and that shifts or cuts could make so. */
    private static final int[] FAR = {Integer.MIN_VALUE, Integer.MIN_VALUE + 1, -256, -2, -1, 61, 64, 256, 65536,
        Integer.MAX_VALUE};
    private static final Edges EDGES = new Edges();

    public static void main(String[] args) {
        mixed();
        holders();
        easeWithout();
        cans();
        pipes();
        cooling();
        sittings();
        standing();
        flinching();
        rising();
        names();
        values();
        numbers();
        tub();
        knight();
        atEase();
        law();
        add();
        pour();
        sit();
        rise();
        go();
        EDGES.end(args);
    }

    private static void isTub(String when, BathOrders x, int tub, int litres, int heat, int who) {
        EDGES.same(when + ": litres of tub " + tub, litres, Due.tub(x, tub, 0));
        EDGES.same(when + ": heat of tub " + tub, heat, Due.tub(x, tub, 1));
        EDGES.same(when + ": who is in tub " + tub, who, Due.tub(x, tub, 2));
    }

    /** BEARS, RANK, TUB, STOOD, BEST, for how long, FLINCHED. */
    private static void isKnight(String when, BathOrders x, int knight, int... due) {
        for (int what = 0; what < due.length; what++) {
            EDGES.same(when + ": knight " + knight + ", what " + what, due[what], x.knight(knight, what));
        }
    }

    private static int heat(BathOrders x, int tub) {
        return Due.tub(x, tub, 1);
    }

    /** Cans by call until a tub told with 99 litres has so many. */
    private static void fill(BathOrders x, int tub, int litres) {
        for (int left = litres - 99; left > 0; left -= 60) {
            x.add(tub, Math.min(60, left));
        }
    }

    private static void mixed() {
        EDGES.numbered(2);
        EDGES.sentence("HEAT the LITRES times HEAT of both in sum by LITRES in sum, cut.");
        BathOrders x = Due.told("tub t 99 99;tub u 1 0;tub v 2 0;tub w 7 0;");
        EDGES.same("990 stays 990", 990, x.add(0, 60));
        EDGES.same("1 of 0 and 1 of 990", 495, x.add(1, 1));
        EDGES.same("2 of 495 and 1 of 990", 660, x.add(1, 1));
        // 7 of 0 and 4 of 990 are 360; then 4 more: 7920 by 15 is 528; then 1: 8910 by 16 is 556.875.
        EDGES.same("by 11 without a rest", 360, x.add(3, 4));
        EDGES.same("by 15 without a rest", 528, x.add(3, 4));
        EDGES.same("by 16 with a rest", 556, x.add(3, 1));
        // What is cut is gone: 16 of 556, not of 556.875, and 1 of 990.
        EDGES.same("what is cut is gone", (16 * 556 + 990) / 17, x.add(3, 1));
    }

    private static void holders() {
        EDGES.sentence("A KNIGHT is in a TUB, or in none; one TUB holds one KNIGHT.");
        BathOrders x = Due.told("knight a 99 0;knight b 99 0;tub t 9 10;tub u 9 10;");
        isKnight("at first", x, 0, 99, 0, -2);
        x.sit(0, 0);
        EDGES.no("a second one", x.sit(1, 0));
        isTub("with one", x, 0, 9, 100, 0);
        x.sit(0, 1);
        isTub("he is in one alone", x, 0, 9, 100, -2);
        isTub("he is in one alone", x, 1, 9, 100, 0);
        EDGES.same("one is in tubs", 1, x.count(8));
    }

    private static void easeWithout() {
        EDGES.sentence("(without, with an ERROR: if HEAT is no more than ten times BEARS)");
        String told = "knight a 49 0;knight b 50 0;knight c 0 0;tub t 10 50;tub u 10 0;tub v 99 0;";
        for (String law : new String[] {"", "law ease 1/0;", "law ease heat/(litres-litres);",
            "law ease 9999*9999*9999*9999;"}) {
            BathOrders x = Due.told(told + law);
            EDGES.same("of 500, bears 49", 0, x.atEase(0, 0));
            EDGES.same("of 500, bears 50", 1, x.atEase(1, 0));
            EDGES.same("of 0, bears 0", 1, x.atEase(2, 1));
            // 99 of 0 and 1 of 990 are of 9: hotter by less than a degree.
            x.add(2, 1);
            EDGES.same("of 9, bears 0", 0, x.atEase(2, 2));
        }
        EDGES.sentence("He is AT EASE in a TUB, if E of ease isn't 0");
        String[] values = {"0", "1", "9999", "0-1", "0*9999", "1-1"};
        int[] eases = {0, 1, 1, 1, 0, 0};
        for (int i = 0; i < values.length; i++) {
            BathOrders x = Due.told(told + "law ease " + values[i] + ";");
            EDGES.same("E is " + values[i] + " of what is too hot", eases[i], x.atEase(0, 0));
            EDGES.same("E is " + values[i] + " of what is not", eases[i], x.atEase(1, 1));
        }
    }

    private static void cans() {
        EDGES.sentence("(1) CANS of this MINUTE, by their numbers, are MIXED into the TUB, unless it would have more than 999 LITRES (then nothing is).");
        BathOrders x = Due.told("tub t 99 0;can t 9 0;can t 2 0;can t 1 0;can t 1 1;law cool 0;");
        fill(x, 0, 997);
        int heat = heat(x, 0);
        x.go(1);
        // 9 would be too much, 2 are not, then 1 is.
        isTub("999 at most", x, 0, 999, (997 * heat + 2 * 990) / 999, -2);
        heat = heat(x, 0);
        x.go(1);
        isTub("nothing into a full one", x, 0, 999, heat, -2);
        BathOrders y = Due.told("tub t 1 0;can t 1 0;can t 1 99;law cool 0;");
        y.go(1);
        isTub("in minute 0", y, 0, 2, 495, -2);
        y.go(98);
        isTub("ahead of minute 99", y, 0, 2, 495, -2);
        y.go(1);
        isTub("in minute 99", y, 0, 3, 660, -2);
        y.go(200);
        isTub("behind it", y, 0, 3, 660, -2);
        // 7 of 0 and 1 are 8 of 123, and 2 to it 10 of 296; the other way round it is 9 of 220 and 10 of 297.
        BathOrders z = Due.told("tub t 7 0;tub u 7 0;can u 2 0;can t 1 0;can t 2 0;can u 1 0;law cool 0;");
        z.go(1);
        isTub("one, then two", z, 0, 10, 296, -2);
        isTub("two, then one", z, 1, 10, 297, -2);
    }

    private static void pipes() {
        EDGES.sentence("as many LITRES as told (all but one, if there are fewer or as many; none of one)");
        int[][] rows = {{1, 1, 0}, {1, 9, 0}, {2, 1, 1}, {2, 2, 1}, {2, 9, 1}, {5, 4, 4}, {5, 5, 4}, {5, 6, 4},
            {6, 5, 5}, {9, 9, 8}, {10, 9, 9}, {99, 9, 9}};
        for (int[] row : rows) {
            BathOrders x = Due.told("tub t " + row[0] + " 90;tub u 10 10;pipe t u " + row[1] + ";law cool 0;");
            x.go(1);
            String what = row[1] + " of " + row[0];
            isTub(what, x, 0, row[0] - row[2], 900, -2);
            isTub(what, x, 1, 10 + row[2], (10 * 100 + row[2] * 900) / (10 + row[2]), -2);
        }
        EDGES.sentence("unless that one would have more than 999 by these (then none go)");
        int[][] full = {{998, 3, 1, 1}, {998, 2, 9, 1}, {998, 3, 9, 0}, {998, 3, 2, 0}, {999, 9, 1, 0}, {999, 1, 1, 0},
            {990, 10, 9, 9}, {991, 10, 9, 0}};
        for (int[] row : full) {
            BathOrders x = Due.told("tub t 99 0;tub u " + row[1] + " 50;pipe u t " + row[2] + ";law cool 0;");
            fill(x, 0, row[0]);
            int heat = heat(x, 0);
            x.go(1);
            String what = row[2] + " of " + row[1] + " to " + row[0];
            isTub(what, x, 0, row[0] + row[3], (row[0] * heat + row[3] * 500) / (row[0] + row[3]), -2);
            isTub(what, x, 1, row[1] - row[3], 500, -2);
        }
        EDGES.sentence("(2) PIPES by their numbers");
        // The second one takes what the first one brought; the other way round none of one goes.
        BathOrders x = Due.told("tub t 5 90;tub u 1 0;tub v 1 0;pipe t u 4;pipe u v 9;law cool 0;");
        x.go(1);
        isTub("from t to u to v", x, 0, 1, 900, -2);
        isTub("from t to u to v", x, 1, 1, 720, -2);
        isTub("from t to u to v", x, 2, 5, 576, -2);
        x = Due.told("tub t 5 90;tub u 1 0;tub v 1 0;pipe u v 9;pipe t u 4;law cool 0;");
        x.go(1);
        isTub("none of one, then from t to u", x, 1, 5, 720, -2);
        isTub("none of one, then from t to u", x, 2, 1, 0, -2);
        // A can of the same minute is in it already.
        x = Due.told("tub t 1 0;tub u 1 0;can t 1 0;pipe t u 9;law cool 0;");
        x.go(1);
        isTub("behind the cans", x, 1, 2, 247, -2);
    }

    /** What a tub of so many degrees is behind one minute. */
    private static void cools(int degrees, int heat, String law) {
        BathOrders x = Due.told("tub t 10 " + degrees + ";" + law);
        x.go(1);
        isTub("of " + degrees + " degrees by '" + law + "'", x, 0, 10, heat, -2);
    }

    private static void cooling() {
        EDGES.sentence("HEAT is less by E of cool (by HEAT, LITRES behind (2); 0 .. 99; what it is above 200 by 50, cut, 0 at least, without, with an ERROR), 0 at least.");
        for (String law : new String[] {"", "law cool 1/0;", "law cool 1/(heat-heat);", "law cool 9999*9999*9999*9999;"}) {
            cools(0, 0, law);
            cools(14, 140, law);
            cools(19, 190, law);
            cools(20, 200, law);
            cools(24, 240, law);
            cools(25, 249, law);
            cools(29, 289, law);
            cools(30, 298, law);
            cools(99, 975, law);
        }
        BathOrders still = Due.told("tub t 10 25;");
        still.go(2);
        isTub("249 is above by less than 50", still, 0, 10, 249, -2);
        cools(50, 500, "law cool 0;");
        cools(50, 500, "law cool 0-1;");
        cools(50, 500, "law cool 0-9999*9999*9999;");
        cools(50, 499, "law cool 1;");
        cools(50, 402, "law cool 98;");
        cools(50, 401, "law cool 99;");
        cools(50, 401, "law cool 100;");
        cools(50, 401, "law cool 9999*9999*9999;");
        cools(9, 0, "law cool 99;");
        cools(9, 0, "law cool 90;");
        cools(9, 1, "law cool 89;");
        cools(0, 0, "law cool 99;");
        // By what it is behind the pipes and cans: 2 litres of 495, heat 49.
        BathOrders x = Due.told("tub t 1 0;can t 1 0;law cool litres*10+(heat=49);");
        x.go(1);
        isTub("litres and heat behind (2)", x, 0, 2, 474, -2);
        x = Due.told("knight k 99 9;tub t 9 50;sit k t 0;law cool bears+rank+stood+long;");
        x.go(9);
        isTub("a knight is nothing to it", x, 0, 9, 500, 0);
    }

    private static void sittings() {
        EDGES.sentence("a KNIGHT gets into the TUB (then out of the one he is in), if nobody is in it, he neither; else he is SENT OFF and stays where he is.");
        BathOrders x = Due.told("knight a 99 0;knight b 99 0;tub t 9 10;tub u 9 10;sit a t 0;sit a t 1;sit b t 1;"
            + "sit a u 2;sit b t 2;sit a t 3;sit b u 99;");
        x.go(1);
        isKnight("in it", x, 0, 99, 0, 0, 1, 100, 1, 0);
        EDGES.same("nobody is sent off", 0, x.count(11));
        x.go(1);
        isKnight("he is in it himself", x, 0, 99, 0, 0, 2, 100, 2, 0);
        isKnight("another one is in it", x, 1, 99, 0, -2, 0, 0, 0, 0);
        EDGES.same("both are sent off", 2, x.count(11));
        x.go(1);
        isKnight("moves", x, 0, 99, 0, 1, 3, 100, 1, 0);
        isKnight("into the one that was left", x, 1, 99, 0, 0, 1, 100, 1, 0);
        EDGES.same("none more", 2, x.count(11));
        x.go(1);
        isKnight("sent off, and stays", x, 0, 99, 0, 1, 4, 100, 2, 0);
        isTub("sent off", x, 0, 9, 100, 1);
        EDGES.same("one more", 3, x.count(11));
        x.go(95);
        EDGES.same("ahead of minute 99", 3, x.count(11));
        x.go(1);
        EDGES.same("in minute 99", 4, x.count(11));
        // By their numbers: who comes first gets in, and the tub isn't left by who flinches later.
        BathOrders y = Due.told("knight a 99 0;knight b 0 0;tub t 9 10;sit b t 0;sit a t 0;");
        y.go(1);
        isKnight("first, but flinches", y, 1, 0, 0, -2, 0, 0, 0, 1);
        isKnight("sent off", y, 0, 99, 0, -2, 0, 0, 0, 0);
        EDGES.same("sent off", 1, y.count(11));
        EDGES.sentence("(4) SITTINGS of this MINUTE, by their numbers");
        BathOrders z = Due.told("knight a 99 0;tub t 9 10;tub u 9 10;sit a t 5;sit a u 0;sit a t 0;sit a u 0;");
        z.go(1);
        isKnight("from one to another in a minute", z, 0, 99, 0, 1, 1, 100, 1, 0);
        EDGES.same("nobody was in them", 0, z.count(11));
    }

    private static void standing() {
        EDGES.sentence("AT EASE, his BEST is its HEAT, if that is more");
        BathOrders x = Due.told("knight k 50 0;tub t 10 50;sit k t 0;flinch 0;law cool (minute=1)*9;can t 1 3;");
        x.go(1);
        isKnight("as hot as he bears", x, 0, 50, 0, 0, 1, 500, 1);
        x.go(1);
        isKnight("less hot", x, 0, 50, 0, 0, 2, 500, 2);
        x.go(1);
        isKnight("less hot yet", x, 0, 50, 0, 0, 3, 500, 3);
        x.go(1);
        isKnight("hotter, but not at ease", x, 0, 50, 0, 0, 4, 500, 4);
        EDGES.same("it is", 536, heat(x, 0));
        EDGES.sentence("Who is in it yet has STOOD one MINUTE more (9999 at most), is in it for one more");
        BathOrders y = Due.told("knight k 99 0;knight l 99 0;tub t 10 0;tub u 10 0;sit k t 0;");
        for (int i = 0; i < 49; i++) {
            y.go(200);
        }
        isKnight("at 9800", y, 0, 99, 0, 0, 9800, 0, 9800, 0);
        EDGES.same("198 more", 9998, y.ahead(198, 2, 0));
        EDGES.same("199 more", 9999, y.ahead(199, 2, 0));
        EDGES.same("200 more", 9999, y.ahead(200, 2, 0));
        EDGES.same("200 more, tried", 9999, y.tried(1, 0, 200));
        EDGES.same("who is in none", 0, y.ahead(200, 2, 1));
    }

    private static void flinching() {
        EDGES.sentence("not AT EASE, he FLINCHES, if a number modulo 100 (no number, if flinch is 0 or 100) is below flinch: he is in none, and that is all for him.");
        String told = "knight k 20 0;tub t 10 50;sit k t 0;law cool 0;law rise 9;law ease stood<2;flinch ";
        BathOrders x = Due.told(told + "100;");
        x.go(2);
        isKnight("at ease", x, 0, 38, 0, 0, 2, 500, 2, 0);
        x.go(1);
        isKnight("flinches", x, 0, 38, 0, -2, 2, 500, 0, 1);
        isTub("nobody is in it", x, 0, 10, 500, -2);
        x.go(200);
        isKnight("out of it once for all", x, 0, 38, 0, -2, 2, 500, 0, 1);
        BathOrders y = Due.told(told + "0;");
        y.go(200);
        isKnight("nobody flinches by 0", y, 0, 99, 0, 0, 200, 500, 200, 0);
        // From seed 1 the first number is 16838: 38.
        String drawn = "knight k 0 0;tub t 10 99;sit k t 0;law cool 0;seed 1;flinch ";
        BathOrders below = Due.told(drawn + "39;");
        below.go(1);
        isKnight("38 is below 39", below, 0, 0, 0, -2, 0, 0, 0, 1);
        BathOrders like = Due.told(drawn + "38;");
        like.go(1);
        isKnight("38 isn't below 38", like, 0, 0, 0, 0, 1, 0, 1, 0);
        // A number only for who is not at ease: a is at ease, so the first number is b's.
        BathOrders z = Due.told("knight a 99 0;knight b 0 0;tub t 10 50;tub u 10 50;sit a t 0;sit b u 0;seed 1;flinch 39;");
        z.go(1);
        isKnight("the first number is his", z, 1, 0, 0, -2, 0, 0, 0, 1);
        EDGES.sentence("(5) by numbers each KNIGHT in a TUB (E of ease is asked once, ahead of all that)");
        noNumberLost();
        // At ease by what he STOOD ahead of it, for how long he was in it, and what he bore.
        for (String law : new String[] {"stood=0", "long=0", "bears=20"}) {
            BathOrders once = Due.told("knight k 20 0;tub t 10 90;sit k t 0;law cool 0;law rise 9;law ease " + law + ";");
            once.go(1);
            isKnight(law + " ahead of it", once, 0, 29, 0, 0, 1, 900, 1, 0);
            once.go(1);
            isKnight(law + " no more", once, 0, 29, 0, -2, 1, 900, 0, 1);
        }
    }

    /** Numbers come by knights in tubs that aren't at ease, one each, over the minutes. */
    private static void noNumberLost() {
        String told = "knight a 0 0;knight b 0 0;knight c 99 0;tub t 9 50;tub u 9 50;tub v 9 50;sit a t 0;sit b u 0;"
            + "sit c v 0;sit b u 1;sit a t 1;sit a t 2;sit b u 2;sit b u 3;sit a t 3;flinch 50;seed ";
        for (int seed = 0; seed < 20; seed++) {
            BathOrders x = Due.told(told + seed + ";");
            Numbers numbers = new Numbers(seed);
            int flinched = 0;
            int others = 0;
            for (int minute = 0; minute < 4; minute++) {
                flinched += numbers.next() % 100 < 50 ? 1 : 0;
                others += numbers.next() % 100 < 50 ? 1 : 0;
                x.go(1);
                EDGES.same("a by seed " + seed + " in " + minute, flinched, x.knight(0, 6));
                EDGES.same("b by seed " + seed + " in " + minute, others, x.knight(1, 6));
            }
        }
    }

    private static void rises(int bears, int behind, String law) {
        BathOrders x = Due.told("knight k " + bears + " 0;tub t 9 0;sit k t 0;flinch 0;" + law);
        x.go(1);
        EDGES.same("bears " + bears + " by '" + law + "'", behind, x.knight(0, 0));
    }

    private static void rising() {
        EDGES.sentence("his BEARS are more by E of rise (asked behind that; -9 .. 9; 0 without, with an ERROR), 0 .. 99.");
        rises(50, 50, "");
        rises(50, 50, "law rise 1/0;");
        rises(50, 50, "law rise 9999*9999*9999*9999;");
        rises(50, 50, "law rise 0;");
        rises(50, 58, "law rise 8;");
        rises(50, 59, "law rise 9;");
        rises(50, 59, "law rise 10;");
        rises(50, 59, "law rise 9999*9999*9999;");
        rises(50, 42, "law rise 0-8;");
        rises(50, 41, "law rise 0-9;");
        rises(50, 41, "law rise 0-10;");
        rises(50, 41, "law rise 0-9999*9999*9999;");
        rises(98, 99, "law rise 1;");
        rises(98, 99, "law rise 2;");
        rises(99, 99, "law rise 9;");
        rises(1, 0, "law rise 0-1;");
        rises(1, 0, "law rise 0-2;");
        rises(0, 0, "law rise 0-9;");
        rises(50, 51, "law rise stood;");
        rises(50, 51, "law rise long;");
        // Who is in none has nothing of it, nor who flinches.
        BathOrders x = Due.told("knight a 50 0;knight b 1 0;tub t 9 90;sit b t 0;law rise 9;");
        x.go(1);
        EDGES.same("in none", 50, x.knight(0, 0));
        EDGES.same("flinched", 1, x.knight(1, 0));
    }

    private static void names() {
        EDGES.sentence("heat: HEAT of the TUB by 10, cut");
        BathOrders x = Due.told("knight k 50 0;tub t 10 50;tub u 99 0;law ease heat;");
        EDGES.same("of 500", 50, x.law(1, 0, 0));
        x.add(0, 1);
        EDGES.same("of 544", 54, x.law(1, 0, 0));
        x.add(1, 1);
        EDGES.same("of 9", 0, x.law(1, 0, 1));
        x.add(1, 1);
        EDGES.same("of 18", 1, x.law(1, 0, 1));
        EDGES.sentence("long: for how many MINUTES he is in it, 0 in the first one till (5) is by (of cool 0)");
        x = Due.told("knight k 0 0;tub t 10 99;sit k t 0;law ease long<2;");
        x.go(2);
        isKnight("long is 1 in the second one", x, 0, 0, 0, 0, 2, x.knight(0, 4), 2, 0);
        x.go(1);
        isKnight("long is 2 in the third one", x, 0, 0, 0, -2, 2, x.knight(0, 4), 0, 1);
        x = Due.told("knight k 0 0;tub t 10 99;sit k t 0;law ease long=0;");
        x.go(1);
        isKnight("long is 0 in the first one", x, 0, 0, 0, 0, 1, 975, 1, 0);
        x.sit(0, 0);
        x.rise(0);
        x.sit(0, 0);
        x.go(1);
        isKnight("0 again by getting in again", x, 0, 0, 0, 0, 2, 975, 1, 0);
        EDGES.sentence("stood: how long he STOOD in all (of cool 0)");
        x = Due.told("knight k 0 0;tub t 10 99;tub u 10 99;sit k t 0;sit k u 1;law ease stood<2;law cool stood;");
        x.go(2);
        isKnight("stood 1 in the second one", x, 0, 0, 0, 1, 2, 990, 1, 0);
        EDGES.same("stood is 2 in all", 0, x.law(1, 0, 0));
        x.go(1);
        isKnight("stood 2 in the third one", x, 0, 0, 0, -2, 2, 990, 0, 1);
        EDGES.sentence("bears, rank: BEARS, RANK of the KNIGHT (of cool 0)");
        for (int rank : new int[] {0, 9}) {
            for (int bears : new int[] {0, 99}) {
                String law = "bears*10+rank;";
                x = Due.told("knight k " + bears + " " + rank + ";tub t 9 0;law ease " + law + "law cool " + law
                    + "law rise " + law);
                EDGES.same("of ease", bears * 10 + rank, x.law(1, 0, 0));
                EDGES.same("of rise", bears * 10 + rank, x.law(2, 0, 0));
                EDGES.same("of cool", 0, x.law(0, 0, 0));
            }
        }
        EDGES.sentence("minute: the MINUTE");
        x = Due.told("tub t 9 9;law cool minute;");
        EDGES.same("0 at first", 0, x.law(0, 0, 0));
        for (int i = 0; i < 49; i++) {
            x.go(200);
        }
        EDGES.same("9800 at last", 9800, x.law(0, 0, 0));
    }

    private static void value(long due, String expression) {
        BathOrders x = Due.told("knight k 7 3;tub t 11 52;law ease " + expression + ";");
        EDGES.same(expression, due, x.law(1, 0, 0));
    }

    private static void values() {
        EDGES.sentence("comparisons, and, or, not are 1 or 0 (what isn't 0 is as 1, both sides are worked out)");
        value(1, "5 and 7");
        value(1, "(0-5) and 7");
        value(0, "0 and 7");
        value(0, "7 and 0");
        value(1, "0 or 7");
        value(1, "(0-7) or 0");
        value(0, "0 or 0");
        value(0, "not 7");
        value(0, "not (0-7)");
        value(1, "not 0");
        value(ERROR, "0 and 1/0");
        value(ERROR, "1 or 1/0");
        value(ERROR, "1/0 or 1");
        value(ERROR, "not (1/0)");
        value(ERROR, "1/0=1/0");
        String[] comparisons = {"<", "<=", "=", "<>", ">=", ">"};
        int[] ofLess = {1, 1, 0, 1, 0, 0};
        int[] ofEqual = {0, 1, 1, 0, 1, 0};
        int[] ofMore = {0, 0, 0, 1, 1, 1};
        for (int i = 0; i < comparisons.length; i++) {
            value(ofLess[i], "6" + comparisons[i] + "bears");
            value(ofEqual[i], "7" + comparisons[i] + "bears");
            value(ofMore[i], "8" + comparisons[i] + "bears");
            value(ofLess[i], "0-1" + comparisons[i] + "0");
        }
        value(1, "1 and not 0");
        value(0, "1 and not not 0");
        value(1, "0 or not 0 and not 0");
        value(3, "(1<2)+(2>1)+(1<>2)");
        value(0, "(1>2)+(2<1)+(1=2)+(2<=1)+(1>=2)+(1<>1)");
        EDGES.sentence("/ is cut towards 0");
        value(3, "7/2");
        value(-3, "(0-7)/2");
        value(-3, "7/(0-2)");
        value(3, "(0-7)/(0-2)");
        value(0, "1/2");
        value(0, "(0-1)/2");
        value(0, "0/5");
        EDGES.sentence("ERROR: / by 0, a value above 10 to the 12 or below 0 by more than that.");
        value(ERROR, "1/0");
        value(ERROR, "0/0");
        value(ERROR, "1/(heat-52)");
        long most = 1000000000000L;
        String twelve = "1000*1000*1000*1000";
        value(most, twelve);
        value(-most, "0-" + twelve);
        value(ERROR, twelve + "+1");
        value(ERROR, "1+" + twelve);
        value(ERROR, "0-1-" + twelve);
        value(ERROR, "0-" + twelve + "-1");
        // What is an error on the way is one, though the whole would be within.
        value(ERROR, twelve + "+1-1");
        value(ERROR, "0*(" + twelve + "+1)");
        value(ERROR, "(" + twelve + "*2)/2");
        value(0, twelve + "-" + twelve);
        value(most, twelve + "*1");
        value(-most, twelve + "*(0-1)");
        value(-most, "(0-1)*(" + twelve + ")");
        value(most, "(0-1)*(0-" + twelve + ")");
        value(-5, "(0-1)*5");
        value(5, "1*5");
        value(0, "0*5");
        value(0, "5*0");
        value(0, "(0-1)*0");
        value(most - 1, twelve + "-1");
        value(-most, "1000*1000*(0-1000*1000)");
        value(-most, "(0-1000*1000)*(1000*1000)");
        value(most, "(0-1000*1000)*(0-1000*1000)");
        value(ERROR, "(0-1000*1000)*(0-1000*1000)+1");
        value(ERROR, "1000*1000*(1000*1000+1)");
        value(ERROR, "(0-1000*1000)*(1000*1000+1)");
        // Products of 2 to the 64 and 2 to the 63 would be 0 and below 0 in longs.
        value(ERROR, "(4096*1024*1024)*(4096*1024*1024)");
        value(ERROR, "(4096*1024*1024)*(2048*1024*1024)");
        value(ERROR, "(0-4096*1024*1024)*(2048*1024*1024)");
        for (int bits = 0; bits <= 39; bits++) {
            value(1L << bits, power(bits));
            value(-(1L << bits), "0-" + power(bits));
        }
        value(ERROR, power(40));
        value(ERROR, "0-" + power(40));
        for (int low = 24; low <= 39; low++) {
            value(ERROR, power(low) + "*(" + power(64 - low) + ")");
            value(ERROR, "(0-" + power(low) + ")*(" + power(64 - low) + ")");
            value(ERROR, power(low) + "*(" + power(65 - low) + ")");
        }
        value(ERROR, twelve + "*(" + twelve + ")");
        value(ERROR, "(0-" + twelve + ")*(" + twelve + ")");
    }

    /** A power of two as a product of what may stand in a law. */
    private static String power(int bits) {
        StringBuilder text = new StringBuilder("1");
        for (int left = bits; left > 0; left -= 12) {
            text.append('*').append(1 << Math.min(12, left));
        }
        return text.toString();
    }

    private static void numbers() {
        EDGES.sentence("Numbers are the last one (at first the seed) times 1103515245 and 12345, without what is above 31 bits, by 65536.");
        String told = "knight k 0 0;tub t 9 99;law cool 0;sit k t 0;sit k t 1;sit k t 2;sit k t 3;sit k t 4;sit k t 5;"
            + "sit k t 6;sit k t 7;sit k t 8;sit k t 9;sit k t 10;sit k t 11;flinch 50;seed ";
        for (int seed : new int[] {0, 1, 2, 65535, 65536, 99998, 99999}) {
            BathOrders x = Due.told(told + seed + ";");
            for (int minute = 0; minute < 12; minute++) {
                x.go(1);
                EDGES.same("flinched by seed " + seed + " behind " + minute, Numbers.below(50, seed, minute + 1),
                    x.knight(0, 6));
            }
        }
        EDGES.sentence("AS IT GOES: without numbers: he FLINCHES, if flinch is 50 at least.");
        for (int flinch : new int[] {0, 1, 49, 50, 51, 99, 100}) {
            BathOrders x = Due.told(told.replace("flinch 50;seed ", "flinch " + flinch + ";"));
            EDGES.same("flinch " + flinch, flinch >= 50 ? 12 : 0, x.ahead(12, 4, 0));
            EDGES.same("when by flinch " + flinch, flinch >= 50 ? 1 : -2, x.flinches(0));
        }
    }

    private static BathOrders sixOfEach() {
        StringBuilder text = new StringBuilder();
        for (char name = 'a'; name <= 'f'; name++) {
            text.append("knight ").append(name).append(" 9 5;tub ").append(name).append(" 7 30;");
        }
        return Due.told(text.toString());
    }

    private static void tub() {
        EDGES.promise(6);
        EDGES.sentence("what 0 LITRES, 1 HEAT, 2 who is in it (-2: nobody).");
        BathOrders x = sixOfEach();
        isTub("the first one", x, 0, 7, 300, -2);
        isTub("the last one", x, 5, 7, 300, -2);
        x.sit(0, 5);
        x.sit(5, 0);
        isTub("with the first knight", x, 5, 7, 300, 0);
        isTub("with the last knight", x, 0, 7, 300, 5);
        x.rise(5);
        isTub("nobody again", x, 0, 7, 300, -2);
        EDGES.sentence("IndexOutOfBoundsException: no such TUB.");
        EDGES.same("a seventh", Due.NO_TUB, Due.tub(x, 6, 0));
        EDGES.same("a third of two", Due.NO_TUB, Due.tub(State.busy(), 2, 0));
        EDGES.same("one of none", Due.NO_TUB, Due.tub(new BathOrders(), 0, 0));
        for (int far : FAR) {
            EDGES.refused("tub " + far, Due.NO_TUB, State::busy, y -> Due.tub(y, far, 0));
            EDGES.same("tub and what " + far, Due.NO_TUB, Due.tub(x, far, far));
        }
        EDGES.sentence("NoSuchElementException: no such what.");
        EDGES.same("what 3", Due.NO_WHAT, Due.tub(x, 0, 3));
        for (int far : FAR) {
            EDGES.refused("what " + far, Due.NO_WHAT, State::busy, y -> Due.tub(y, 1, far));
        }
    }

    private static void knight() {
        EDGES.promise(7);
        EDGES.sentence("2 the TUB he is in (-2: none), 3 STOOD, 4 BEST, 5 for how many MINUTES he is in it (0: in none), 6 how often he FLINCHED.");
        BathOrders x = sixOfEach();
        isKnight("the first one", x, 0, 9, 5, -2, 0, 0, 0, 0);
        isKnight("the last one", x, 5, 9, 5, -2, 0, 0, 0, 0);
        x.sit(5, 0);
        isKnight("in it, but no minute yet", x, 5, 9, 5, 0, 0, 0, 0, 0);
        x.go(1);
        isKnight("flinched", x, 5, 9, 5, -2, 0, 0, 0, 1);
        x.sit(5, 5);
        x.go(1);
        isKnight("flinched twice", x, 5, 9, 5, -2, 0, 0, 0, 2);
        EDGES.sentence("NONE: no such ones.");
        EDGES.same("a seventh", NONE, x.knight(6, 0));
        EDGES.same("what 7", NONE, x.knight(0, 7));
        EDGES.same("one of none", NONE, new BathOrders().knight(0, 0));
        EDGES.same("a third of two", NONE, State.busy().knight(2, 0));
        for (int far : FAR) {
            EDGES.same("knight " + far, NONE, x.knight(far, 0));
            EDGES.same("what " + far, NONE, x.knight(0, far));
            EDGES.same("both " + far, NONE, x.knight(far, far));
        }
    }

    private static void atEase() {
        EDGES.promise(8);
        EDGES.sentence("Whether a KNIGHT would be AT EASE in a TUB now (1, 0; long 0, be he in it or not)");
        BathOrders x = Due.told("knight k 9 0;tub t 9 9;tub u 9 9;law ease long=0;flinch 0;");
        EDGES.same("in none", 1, x.atEase(0, 0));
        x.sit(0, 0);
        x.go(3);
        EDGES.same("in it for 3", 1, x.atEase(0, 0));
        EDGES.same("in another one for 3", 1, x.atEase(0, 1));
        EDGES.sentence("NONE: no such ones.");
        BathOrders six = sixOfEach();
        EDGES.same("the last ones", 0, six.atEase(5, 5));
        EDGES.same("a seventh knight", NONE, six.atEase(6, 5));
        EDGES.same("a seventh tub", NONE, six.atEase(5, 6));
        EDGES.same("a second knight of one", NONE, x.atEase(1, 0));
        EDGES.same("a third tub of two", NONE, x.atEase(0, 2));
        EDGES.same("no knights", NONE, Due.told("tub t 9 9;").atEase(0, 0));
        EDGES.same("no tubs", NONE, Due.told("knight t 9 9;").atEase(0, 0));
        for (int far : FAR) {
            EDGES.same("knight " + far, NONE, x.atEase(far, 0));
            EDGES.same("tub " + far, NONE, x.atEase(0, far));
        }
    }

    private static void law() {
        EDGES.promise(9);
        EDGES.sentence("(what 0 cool, the KNIGHT isn't looked at, 1 ease, 2 rise; long 0)");
        String told = "knight k 9 8;tub t 7 20;sit k t 0;";
        String all = "law cool 1000+bears+rank+stood+long;law ease 2000+rank*10+stood+long*100;law rise 3000+long;";
        BathOrders x = Due.told("flinch 0;" + told + all);
        x.go(2);
        EDGES.same("cool", 1000, x.law(0, 0, 0));
        EDGES.same("ease", 2082, x.law(1, 0, 0));
        EDGES.same("rise", 3000, x.law(2, 0, 0));
        for (int far : FAR) {
            EDGES.same("cool of no such knight " + far, 1000, x.law(0, far, 0));
        }
        EDGES.same("beyond what a minute takes", -9999, Due.told(told + "law cool 0-9999;").law(0, 0, 0));
        EDGES.sentence("Long.MIN_VALUE: an ERROR, no such law, no such ones.");
        for (int what = 0; what <= 2; what++) {
            String rule = new String[] {"cool", "ease", "rise"}[what];
            EDGES.same("an error of " + rule, ERROR, Due.told(told + "law " + rule + " 1/0;").law(what, 0, 0));
            EDGES.same("no law of " + rule, ERROR, Due.told(told + all.replaceAll("law " + rule + "[^;]*;", ""))
                .law(what, 0, 0));
            EDGES.same("no such tub of " + rule, ERROR, x.law(what, 0, 1));
            for (int far : FAR) {
                EDGES.same("tub " + far + " of " + rule, ERROR, x.law(what, 0, far));
                EDGES.same("knight " + far + " of " + rule, what == 0 ? 1000 : ERROR, x.law(what, far, 0));
            }
        }
        EDGES.same("no such knight of ease", ERROR, x.law(1, 1, 0));
        EDGES.same("no such knight of rise", ERROR, x.law(2, 1, 0));
        EDGES.same("what 3", ERROR, x.law(3, 0, 0));
        for (int far : FAR) {
            EDGES.same("what " + far, ERROR, x.law(far, 0, 0));
        }
    }

    private static BathOrders nearlyFull() {
        BathOrders x = Due.told("knight k 50 1;knight l 9 1;tub t 99 10;tub u 99 20;tub v 60 30;sit k t 0;law cool 1;");
        fill(x, 0, 939);
        x.go(1);
        x.sit(1, 2);
        return x;
    }

    private static void add() {
        EDGES.promise(10);
        EDGES.sentence("LITRES 1 .. 60 are MIXED as a CAN into a TUB now: its HEAT");
        BathOrders x = Due.told("tub t 40 99;tub u 1 0;");
        EDGES.same("1 litre", 495, x.add(1, 1));
        EDGES.same("60 litres", (2 * 495 + 60 * 990) / 62, x.add(1, 60));
        isTub("so many", x, 1, 62, (2 * 495 + 60 * 990) / 62, -2);
        EDGES.sentence("-2: it would have more than 999");
        BathOrders full = nearlyFull();
        EDGES.yes("999 are not more", full.add(0, 60) > 0);
        EDGES.same("so many", 999, Due.tub(full, 0, 0));
        EDGES.same("one more", -2, full.add(0, 1));
        EDGES.same("60 more", -2, full.add(0, 60));
        EDGES.same("only one to undo beside the sitting", 2, full.count(14));
        BathOrders y = nearlyFull();
        y.add(0, 1);
        EDGES.same("1000 are more", -2, y.add(0, 60));
        EDGES.yes("999 are not", y.add(0, 59) > 0);
        EDGES.refused("into a full one", -2, MinuteEdgesTest::full, z -> z.add(0, 1));
        EDGES.sentence("NONE: no such ones.");
        for (int litres : FAR) {
            EDGES.refused("litres " + litres, NONE, State::busy, z -> z.add(0, litres));
            EDGES.refused("tub " + litres, NONE, State::busy, z -> z.add(litres, 1));
        }
        EDGES.refused("no litres", NONE, State::busy, z -> z.add(0, 0));
        EDGES.refused("61 litres into a full one", NONE, MinuteEdgesTest::full, z -> z.add(0, 61));
        EDGES.refused("a third of two", NONE, State::busy, z -> z.add(2, 1));
        EDGES.refused("one of none", NONE, BathOrders::new, z -> z.add(0, 1));
        EDGES.same("a seventh", NONE, sixOfEach().add(6, 1));
        EDGES.same("the sixth", (7 * 300 + 990) / 8, sixOfEach().add(5, 1));
    }

    private static BathOrders full() {
        BathOrders x = nearlyFull();
        x.add(0, 60);
        return x;
    }

    private static void pour() {
        EDGES.promise(11);
        EDGES.sentence("LITRES 1 .. 60 of a TUB are MIXED into another one now: HEAT of that one");
        BathOrders x = Due.told("tub t 99 90;tub u 1 0;");
        EDGES.same("1 litre", 450, x.pour(0, 1, 1));
        isTub("left", x, 0, 98, 900, -2);
        EDGES.same("60 litres", (2 * 450 + 60 * 900) / 62, x.pour(0, 1, 60));
        isTub("left", x, 0, 38, 900, -2);
        isTub("come", x, 1, 62, (2 * 450 + 60 * 900) / 62, -2);
        EDGES.sentence("-2: there are no more than these, that one would have more than 999");
        EDGES.refused("all there are", -2, State::busy, y -> y.pour(1, 0, Due.tub(y, 1, 0)));
        EDGES.refused("more than there are", -2, State::busy, y -> y.pour(1, 0, 60));
        BathOrders all = Due.told("tub t 5 90;tub u 1 0;");
        EDGES.same("five of five", -2, all.pour(0, 1, 5));
        EDGES.same("six of five", -2, all.pour(0, 1, 6));
        EDGES.same("four of five", 720, all.pour(0, 1, 4));
        EDGES.same("one of one", -2, all.pour(0, 1, 1));
        BathOrders y = nearlyFull();
        EDGES.yes("999 are not more", y.pour(1, 0, 60) > 0);
        EDGES.same("so many", 999, Due.tub(y, 0, 0));
        EDGES.same("1000 are", -2, y.pour(1, 0, 1));
        EDGES.refused("into a full one", -2, MinuteEdgesTest::full, z -> z.pour(1, 0, 1));
        EDGES.yes("out of a full one", full().pour(0, 1, 60) > 0);
        EDGES.sentence("NONE: no such ones, TUBS alike.");
        EDGES.refused("alike", NONE, State::busy, z -> z.pour(1, 1, 1));
        EDGES.refused("alike and full", NONE, MinuteEdgesTest::full, z -> z.pour(0, 0, 60));
        for (int far : FAR) {
            EDGES.refused("litres " + far, NONE, State::busy, z -> z.pour(0, 1, far));
            EDGES.refused("from " + far, NONE, State::busy, z -> z.pour(far, 1, 1));
            EDGES.refused("to " + far, NONE, State::busy, z -> z.pour(0, far, 1));
            EDGES.refused("both " + far, NONE, State::busy, z -> z.pour(far, far, 1));
        }
        EDGES.refused("no litres", NONE, State::busy, z -> z.pour(0, 1, 0));
        EDGES.refused("from a third of two", NONE, State::busy, z -> z.pour(2, 1, 1));
        EDGES.refused("to a third of two", NONE, State::busy, z -> z.pour(0, 2, 1));
        EDGES.same("61 litres into a full one", NONE, full().pour(1, 0, 61));
        EDGES.same("from a seventh", NONE, sixOfEach().pour(6, 0, 1));
        EDGES.same("to a seventh", NONE, sixOfEach().pour(0, 6, 1));
        EDGES.same("of the last ones", 300, sixOfEach().pour(5, 4, 1));
    }

    private static void sit() {
        EDGES.promise(12);
        EDGES.sentence("A KNIGHT gets into a TUB now (as in (4)): true");
        BathOrders x = sixOfEach();
        EDGES.yes("the last ones", x.sit(5, 5));
        EDGES.yes("out of the one he is in", x.sit(5, 0));
        isTub("left", x, 5, 7, 300, -2);
        isTub("got into", x, 0, 7, 300, 5);
        EDGES.yes("into the one that was left", x.sit(0, 5));
        EDGES.same("two are in tubs", 2, x.count(8));
        BathOrders z = Due.told("knight k 99 0;tub t 9 9;tub u 9 9;");
        z.sit(0, 0);
        z.go(4);
        EDGES.same("for 4 minutes", 4, z.knight(0, 5));
        z.sit(0, 1);
        EDGES.same("for none in the other one", 0, z.knight(0, 5));
        EDGES.same("stood stays", 4, z.knight(0, 3));
        EDGES.sentence("false: no such ones, somebody is in it (nobody is SENT OFF by it).");
        for (int far : FAR) {
            EDGES.refused("knight " + far, 0, State::busy, y -> y.sit(far, 0) ? 1 : 0);
            EDGES.refused("tub " + far, 0, State::busy, y -> y.sit(0, far) ? 1 : 0);
        }
        EDGES.refused("a third knight of two", 0, State::busy, y -> y.sit(2, 0) ? 1 : 0);
        EDGES.refused("a third tub of two", 0, State::busy, y -> y.sit(0, 2) ? 1 : 0);
        EDGES.refused("a seventh knight", 0, MinuteEdgesTest::sixOfEach, y -> y.sit(6, 0) ? 1 : 0);
        EDGES.refused("a seventh tub", 0, MinuteEdgesTest::sixOfEach, y -> y.sit(0, 6) ? 1 : 0);
        EDGES.refused("nobody, nothing", 0, BathOrders::new, y -> y.sit(0, 0) ? 1 : 0);
        EDGES.refused("another one is in it", 0, MinuteEdgesTest::nearlyFull, y -> y.sit(0, 2) ? 1 : 0);
        EDGES.refused("he himself is in it", 0, MinuteEdgesTest::nearlyFull, y -> y.sit(1, 2) ? 1 : 0);
        BathOrders off = nearlyFull();
        off.sit(0, 2);
        off.sit(1, 2);
        EDGES.same("nobody is sent off", 0, off.count(11));
    }

    private static void rise() {
        EDGES.promise(13);
        EDGES.sentence("A KNIGHT gets out: true");
        BathOrders x = nearlyFull();
        EDGES.yes("out", x.rise(1));
        isKnight("in none", x, 1, 9, 1, -2, 0, 0, 0, 0);
        isTub("nobody is in it", x, 2, 60, 299, -2);
        EDGES.sentence("false: no such KNIGHT, in no TUB.");
        EDGES.no("in none by now", x.rise(1));
        EDGES.refused("in no tub", 0, MinuteEdgesTest::sixOfEach, y -> y.rise(5) ? 1 : 0);
        EDGES.refused("a seventh", 0, MinuteEdgesTest::sixOfEach, y -> y.rise(6) ? 1 : 0);
        EDGES.refused("a third of two", 0, State::busy, y -> y.rise(2) ? 1 : 0);
        EDGES.refused("one of none", 0, BathOrders::new, y -> y.rise(0) ? 1 : 0);
        for (int far : FAR) {
            EDGES.refused("knight " + far, 0, State::busy, y -> y.rise(far) ? 1 : 0);
        }
    }

    private static BathOrders late(int minute) {
        BathOrders x = Due.told("knight k 99 0;tub t 10 50;tub u 10 50;sit k t 0;law rise 1;");
        int left = minute;
        for (int i = 0; i < 49 && left > 0; i++) {
            x.go(Math.min(200, left));
            left -= Math.min(200, left);
        }
        x.add(1, 5);
        x.rise(0);
        return x;
    }

    private static void go() {
        EDGES.promise(14);
        EDGES.sentence("So many MINUTES (0 .. 200) go by: which one it is");
        EDGES.same("none", 0, new BathOrders().go(0));
        EDGES.same("one", 1, new BathOrders().go(1));
        EDGES.same("200", 200, new BathOrders().go(200));
        EDGES.refused("none changes nothing", 5, State::busy, x -> x.go(0));
        EDGES.same("up to 9800", 9800, late(9600).go(200));
        EDGES.same("none at 9800", 9800, late(9800).go(0));
        EDGES.sentence("NONE, and none does: no such number, behind 9800.");
        for (int n : new int[] {Integer.MIN_VALUE, -256, -1, 201, 256, 9800, 65536, Integer.MAX_VALUE}) {
            EDGES.refused("go " + n, NONE, State::busy, x -> x.go(n));
            EDGES.refused("go " + n + " at 9800", NONE, () -> late(9800), x -> x.go(n));
        }
        EDGES.refused("9801 by 1", NONE, () -> late(9800), x -> x.go(1));
        EDGES.refused("9801 by 200", NONE, () -> late(9601), x -> x.go(200));
        EDGES.refused("9801 by 102", NONE, () -> late(9699), x -> x.go(102));
        EDGES.refused("10000", NONE, () -> late(9800), x -> x.go(200));
        EDGES.same("9800 by 101", 9800, late(9699).go(101));
    }
}
