/** Promises 6 to 14 and 35 to 38: tubs, knights, laws, doings by call, minutes, undo, images, counts. */
public final class MinutesTest {
    private static final int NONE = BathOrders.NONE;
    private static final long ERROR = Long.MIN_VALUE;
    private static final String HOUSE = "knight a 40 5;knight b 60 2;tub t 10 50;tub u 20 30;"
        + "sit a t 0;sit b t 0;sit b t 1;can u 5 1;pipe t u 4;";
    private static final Due DUE = new Due();

    public static void main(String[] args) {
        start();
        minutes();
        lawsOfMinutes();
        fullTubs();
        numbers();
        ease();
        values();
        addAndPour();
        sitAndRise();
        go();
        undo();
        images();
        DUE.end();
    }

    private static void tub(String when, BathOrders x, int tub, int litres, int heat, int who) {
        DUE.same(when + ": litres of tub " + tub, litres, Due.tub(x, tub, 0));
        DUE.same(when + ": heat of tub " + tub, heat, Due.tub(x, tub, 1));
        DUE.same(when + ": who is in tub " + tub, who, Due.tub(x, tub, 2));
    }

    private static void knight(String when, BathOrders x, int knight, int... due) {
        for (int what = 0; what < due.length; what++) {
            DUE.same(when + ": knight " + knight + ", " + what, due[what], x.knight(knight, what));
        }
    }

    private static void start() {
        BathOrders x = Due.told(HOUSE);
        tub("at first", x, 0, 10, 500, -2);
        tub("at first", x, 1, 20, 300, -2);
        knight("at first", x, 0, 40, 5, -2, 0, 0, 0, 0, NONE);
        knight("at first", x, 1, 60, 2, -2, 0, 0, 0, 0, NONE);
        DUE.same("no such tub", Due.NO_TUB, Due.tub(x, 2, 0));
        DUE.same("tub below 0", Due.NO_TUB, Due.tub(x, -1, 0));
        DUE.same("no such what", Due.NO_WHAT, Due.tub(x, 0, 3));
        DUE.same("what below 0", Due.NO_WHAT, Due.tub(x, 0, -1));
        DUE.same("neither tub nor what", Due.NO_TUB, Due.tub(x, 2, 3));
        DUE.same("no such knight", NONE, x.knight(2, 0));
        DUE.same("knight below 0", NONE, x.knight(-1, 0));
        DUE.same("what of a knight below 0", NONE, x.knight(0, -1));
        int[] counts = {2, 2, 3, 1, 1, 0, 0, 30, 0, 0, 0, 0, 0, 0, 0, NONE};
        for (int what = 0; what < counts.length; what++) {
            DUE.same("count " + what, counts[what], x.count(what));
        }
        DUE.same("count below 0", NONE, x.count(-1));
    }

    private static void minutes() {
        BathOrders x = Due.told(HOUSE);
        DUE.same("go 1", 1, x.go(1));
        // 20 of 300 and 4 of 500 are 24 of 333; t cools by 6, u by 2.
        tub("behind 1", x, 0, 6, 494, -2);
        tub("behind 1", x, 1, 24, 331, -2);
        knight("behind 1", x, 0, 40, 5, -2, 0, 0, 0, 1);
        knight("behind 1", x, 1, 60, 2, -2, 0, 0, 0, 0);
        DUE.same("sent off", 1, x.count(11));
        DUE.same("flinched", 1, x.count(10));
        DUE.same("go 1 more", 2, x.go(1));
        // 24 of 331 and 5 of 990 are 29 of 444, and 4 of 494 to it 33 of 450; both cool by 5.
        tub("behind 2", x, 0, 2, 489, 1);
        tub("behind 2", x, 1, 33, 445, -2);
        knight("behind 2", x, 1, 60, 2, 0, 1, 489, 1, 0);
        DUE.same("in tubs", 1, x.count(8));
        DUE.same("litres of all", 35, x.count(7));
        x.go(1);
        // One litre stays in a tub.
        tub("behind 3", x, 0, 1, 484, 1);
        tub("behind 3", x, 1, 34, 442, -2);
        knight("behind 3", x, 1, 60, 2, 0, 2, 489, 2, 0);
        x.go(1);
        tub("behind 4", x, 0, 1, 479, 1);
        tub("behind 4", x, 1, 34, 438, -2);
        knight("behind 4", x, 1, 60, 2, 0, 3, 489, 3, 0);
        DUE.same("stood in sum", 3, x.count(9));
        DUE.same("the minute", 4, x.count(6));
        BathOrders y = Due.told(HOUSE);
        DUE.same("all at once", 4, y.go(4));
        tub("behind 4 at once", y, 1, 34, 438, -2);
    }

    private static void lawsOfMinutes() {
        // Cooling is kept within 0 .. 99, by what a tub is behind the pipes.
        BathOrders x = Due.told("tub t 10 50;tub u 10 10;pipe t u 9;law cool litres*100-850+bears+rank+stood+long;");
        x.go(1);
        tub("cool below 0", x, 0, 1, 500, -2);
        // 10 of 100 and 9 of 500 are 19 of 289; the law says 1050.
        tub("cool beyond 99", x, 1, 19, 190, -2);
        x = Due.told("tub t 10 3;law cool 50;");
        x.go(1);
        tub("0 at least", x, 0, 10, 0, -2);
        x = Due.told("tub t 10 31;tub u 10 19;law cool 1/(minute-1);");
        x.go(1);
        tub("cool -1", x, 0, 10, 310, -2);
        x.go(1);
        tub("an error of cool", x, 0, 10, 308, -2);
        tub("an error of cool below 200", x, 1, 10, 190, -2);
        x.go(1);
        tub("cool 1", x, 0, 10, 307, -2);
        // Rise is asked behind the minute stood, and kept within -9 .. 9 and 0 .. 99.
        x = Due.told("knight k 20 0;tub t 10 10;sit k t 0;law cool 0;law rise stood*100+long*10-103;");
        x.go(1);
        knight("rise 7", x, 0, 27, 0, 0, 1, 100, 1);
        x.go(1);
        knight("rise beyond 9", x, 0, 36, 0, 0, 2, 100, 2);
        x.go(20);
        knight("bears 99 at most", x, 0, 99, 0, 0, 22, 100, 22);
        x = Due.told("knight k 20 0;tub t 10 0;sit k t 0;law rise 0-20;");
        x.go(2);
        knight("rise below -9", x, 0, 2, 0, 0, 2, 0, 2);
        x.go(1);
        knight("bears 0 at least", x, 0, 0, 0, 0, 3, 0, 3);
        x = Due.told("knight k 20 0;tub t 10 0;sit k t 0;law rise 5/(2-stood);");
        x.go(1);
        knight("rise 5", x, 0, 25);
        x.go(1);
        knight("an error of rise", x, 0, 25);
        // Ease: long is 0 in the first minute, STOOD as it was ahead of it.
        x = Due.told("knight k 0 0;tub t 10 99;sit k t 3;law ease long+stood<4;law cool 0;");
        x.go(5);
        knight("at ease by the law", x, 0, 0, 0, 0, 2, 990, 2, 0);
        x.go(1);
        knight("not at ease by it", x, 0, 0, 0, -2, 2, 990, 0, 1);
    }

    private static void fullTubs() {
        BathOrders x = Due.told("tub t 99 0;tub u 99 10;can t 9 0;can t 1 0;pipe u t 1;law cool 0;");
        for (int i = 0; i < 14; i++) {
            x.add(0, 60);
        }
        x.add(0, 59);
        int heat = Due.tub(x, 0, 1);
        x.go(1);
        // A can of 9 would be too much, the can of one fills it, then nothing comes by the pipe.
        tub("full", x, 0, 999, (998 * heat + 990) / 999, -2);
        tub("the source of a full one", x, 1, 99, 100, -2);
    }

    private static void numbers() {
        // From seed 1: 16838, 5758, 10113, 17515, 31051.
        String text = "knight k 0 0;tub t 10 99;seed 1;law cool 0;sit k t 0;sit k t 1;sit k t 3;sit k t 4;flinch ";
        BathOrders x = Due.told(text + "39;");
        x.go(1);
        knight("38 is below 39", x, 0, 0, 0, -2, 0, 0, 0, 1);
        x.go(1);
        knight("58 isn't", x, 0, 0, 0, 0, 1, 0, 1, 1);
        x.go(1);
        knight("13 is", x, 0, 0, 0, -2, 1, 0, 0, 2);
        x.go(1);
        knight("15 is", x, 0, 0, 0, -2, 1, 0, 0, 3);
        x.go(1);
        knight("51 isn't", x, 0, 0, 0, 0, 2, 0, 1, 3);
        x = Due.told(text + "38;");
        x.go(1);
        knight("38 isn't below 38", x, 0, 0, 0, 0, 1, 0, 1, 0);
        x = Due.told(text + "0;");
        x.go(5);
        knight("nobody flinches", x, 0, 0, 0, 0, 5, 0, 5, 0);
        DUE.same("sent off out of one's own tub", 3, x.count(11));
        Due.tell(x, "knight k 0 0;tub t 10 99;law cool 0;sit k t 0;flinch 1;");
        x.go(1);
        knight("0 is below 1, the seed is 0 again", x, 0, 0, 0, -2, 0, 0, 0, 1);
        x = Due.told(text + "100;");
        x.go(5);
        knight("all flinch", x, 0, 0, 0, -2, 0, 0, 0, 4);
    }

    private static void ease() {
        BathOrders x = Due.told("knight k 50 3;knight l 49 4;tub t 10 50;tub u 10 51;");
        DUE.same("as hot as he bears", 1, x.atEase(0, 0));
        DUE.same("hotter", 0, x.atEase(0, 1));
        DUE.same("hotter than the other bears", 0, x.atEase(1, 0));
        DUE.same("no such knight", NONE, x.atEase(2, 0));
        DUE.same("knight below 0", NONE, x.atEase(-1, 0));
        DUE.same("no such tub", NONE, x.atEase(0, 2));
        DUE.same("tub below 0", NONE, x.atEase(0, -1));
        x = Due.told("knight k 50 3;knight l 49 0;tub t 10 50;tub u 10 51;law ease long=0 and 6/rank;");
        DUE.same("by the law", 1, x.atEase(0, 1));
        DUE.same("by heat with an error", 0, x.atEase(1, 0));
        x.sit(0, 1);
        x.go(1);
        DUE.same("long 0 though he is in it", 1, x.atEase(0, 1));
    }

    private static void value(long due, String expression) {
        BathOrders x = Due.told("knight k 7 3;tub t 11 52;law ease " + expression + ";");
        DUE.same(expression, due, x.law(1, 0, 0));
    }

    private static void values() {
        value(7, "1+2*3");
        value(9, "(1+2)*3");
        value(4, "7-2-1");
        value(2, "8/2/2");
        value(-3, "(0-7)/2");
        value(-3, "7/(0-2)");
        value(1, "1 or 0 and 0");
        value(1, "not 1=2");
        value(0, "not 1 and 0");
        value(1, "not not 5");
        value(0, "not 5");
        value(1, "2 and 3");
        value(0, "2 and 0");
        value(0, "0 and 2");
        value(0, "0 or 0");
        value(1, "1=1");
        value(0, "1=2");
        value(1, "2<>1");
        value(0, "2<=1");
        value(0, "1>=2");
        value(1, "2>1");
        value(1, "((((((((0+1))))))))");
        value(1, "1<2 and (1<2)=(3<4)");
        value(1, "0 or 0-4");
        value(2, "1+(2<3)");
        value(1, "1<1+1");
        value(0, "1<1");
        value(1, "1<=1");
        value(0, "1<>1");
        value(1, "1>=1");
        value(0, "1>1");
        value(52, "heat");
        value(7, "bears");
        value(3, "rank");
        value(0, "stood+long+minute");
        value(11, "litres");
        value(ERROR, "1/0");
        value(ERROR, "1 or 1/(heat-52)");
        value(ERROR, "0 and 1/0");
        value(1000000000000L, "1000*1000*1000*1000");
        value(ERROR, "1000*1000*1000*1000+1");
        value(-1000000000000L, "0-1000*1000*1000*1000");
        value(ERROR, "0-1000*1000*1000*1000-1");
        value(ERROR, "9999*9999*9999*9999*9999*9999*9999*9999");
        value(ERROR, "(9999*9999*9999)*(0-9999*9999*9999)");
        value(999700029999L, "9999*9999*9999");
        value(0, "0*(9999*9999*9999)");
        value(-1000000000000L, "(0-1000*1000)*(1000*1000)");
        value(-1000000000000L, "1000*1000*(0-1000*1000)");
        value(1000000000000L, "(0-1000*1000)*(0-1000*1000)");
        value(ERROR, "1000*1000*(0-1000*1000-1)");
        // 2 to the 64, of which the longs would leave 0.
        value(ERROR, "4096*1024*1024*(4096*1024*1024)");
        value(ERROR, "4096*1024*1024*(0-4096*1024*1024)");
        value(ERROR, "(0-4096*1024*1024)*(4096*1024*1024)");
        value(ERROR, "(0-4096*1024*1024)*(0-4096*1024*1024)");
        BathOrders x = Due.told("knight k 7 3;tub t 11 52;tub u 11 0;"
            + "law cool bears+rank+stood+long+litres;law rise stood;");
        DUE.same("cool looks at no such knight", 11, x.law(0, -5, 1));
        DUE.same("no such tub", ERROR, x.law(0, 0, 2));
        DUE.same("tub below 0", ERROR, x.law(0, 0, -1));
        DUE.same("no such law", ERROR, x.law(1, 0, 0));
        DUE.same("no such knight", ERROR, x.law(2, 1, 0));
        DUE.same("no such what", ERROR, x.law(3, 0, 0));
        DUE.same("what below 0", ERROR, x.law(-1, 0, 0));
        x.sit(0, 1);
        x.go(3);
        DUE.same("stood by now", 3, x.law(2, 0, 0));
        DUE.same("cool looks at no knight", 11, x.law(0, 0, 0));
        Due.tell(x, "knight k 7 3;tub t 11 52;");
        for (int what = 0; what < 3; what++) {
            DUE.same("a law of the text before", ERROR, x.law(what, 0, 0));
        }
    }

    private static void addAndPour() {
        BathOrders x = Due.told("tub t 10 50;tub u 99 0;");
        DUE.same("10 of 500 and 1 of 990", 544, x.add(0, 1));
        DUE.same("99 of 0 and 60 of 990", 373, x.add(1, 60));
        DUE.same("no litres", NONE, x.add(0, 0));
        DUE.same("61 litres", NONE, x.add(0, 61));
        DUE.same("no such tub", NONE, x.add(2, 1));
        DUE.same("tub below 0", NONE, x.add(-1, 1));
        for (int i = 0; i < 14; i++) {
            x.add(1, 60);
        }
        DUE.same("999 litres", 999, Due.tub(x, 1, 0));
        DUE.same("more than 999", -2, x.add(1, 1));
        DUE.same("more than 999 poured", -2, x.pour(0, 1, 1));
        DUE.same("all that is there", -2, x.pour(0, 1, 11));
        x.undo();
        DUE.same("939 litres", 939, Due.tub(x, 1, 0));
        int heat = (939 * Due.tub(x, 1, 1) + 10 * 544) / 949;
        DUE.same("all but one", heat, x.pour(0, 1, 10));
        tub("poured", x, 0, 1, 544, -2);
        tub("poured", x, 1, 949, heat, -2);
        DUE.same("none of one", -2, x.pour(0, 1, 1));
        DUE.same("into itself", NONE, x.pour(1, 1, 1));
        DUE.same("no litres poured", NONE, x.pour(1, 0, 0));
        DUE.same("61 litres poured", NONE, x.pour(1, 0, 61));
        DUE.same("from no such tub", NONE, x.pour(2, 0, 1));
        DUE.same("to no such tub", NONE, x.pour(0, -1, 1));
        DUE.same("60 litres poured", (544 + 60 * heat) / 61, x.pour(1, 0, 60));
    }

    private static void sitAndRise() {
        BathOrders x = Due.told("knight k 99 0;knight l 99 0;tub t 10 50;tub u 10 50;");
        DUE.yes("sits", x.sit(0, 0));
        DUE.no("in it himself", x.sit(0, 0));
        DUE.no("somebody is in it", x.sit(1, 0));
        DUE.no("no such knight", x.sit(2, 1));
        DUE.no("knight below 0", x.sit(-1, 1));
        DUE.no("no such tub", x.sit(1, 2));
        DUE.no("tub below 0", x.sit(1, -1));
        DUE.same("only one to undo", 1, x.count(14));
        DUE.same("nobody is sent off", 0, x.count(11));
        x.go(2);
        knight("behind 2", x, 0, 99, 0, 0, 2, 494, 2);
        DUE.yes("moves", x.sit(0, 1));
        tub("moved", x, 0, 10, 489, -2);
        tub("moved", x, 1, 10, 489, 0);
        knight("moved", x, 0, 99, 0, 1, 2, 494, 0);
        DUE.yes("into the other one", x.sit(1, 0));
        DUE.yes("rises", x.rise(0));
        knight("risen", x, 0, 99, 0, -2, 2, 494, 0);
        DUE.no("in none", x.rise(0));
        DUE.yes("gets back", x.sit(0, 1));
        DUE.same("both in tubs", 2, x.count(8));
        DUE.yes("the other one rises out of the first tub", x.rise(1));
        DUE.yes("rises again", x.rise(0));
        DUE.same("nobody in tubs", 0, x.count(8));
        DUE.yes("only the first one", x.sit(0, 0));
        DUE.no("no such knight", x.rise(2));
        DUE.no("knight below 0", x.rise(-1));
        DUE.same("in tubs", 1, x.count(8));
    }

    private static void go() {
        BathOrders x = Due.told("knight k 99 0;tub t 10 0;sit k t 0;");
        DUE.same("no minute", 0, x.go(0));
        DUE.same("below 0", NONE, x.go(-1));
        DUE.same("too many", NONE, x.go(201));
        for (int i = 1; i <= 49; i++) {
            DUE.same("go 200", 200 * i, x.go(200));
        }
        DUE.same("behind 9800", NONE, x.go(1));
        DUE.same("far behind 9800", NONE, x.go(200));
        DUE.same("none goes by", 9800, x.count(6));
        DUE.same("no minute at 9800", 9800, x.go(0));
        DUE.same("no such number at 9800", NONE, x.go(-1));
        DUE.same("stood", 9800, x.knight(0, 3));
        DUE.same("stood at most", 9999, x.ahead(200, 2, 0));
        goOverTheLast();
    }

    private static void goOverTheLast() {
        BathOrders x = Due.told("knight k 99 0;tub t 10 50;tub u 10 50;sit k t 0;");
        for (int i = 1; i <= 48; i++) {
            x.go(200);
        }
        x.go(99);
        x.add(1, 5);
        x.rise(0);
        DUE.same("would be 9801", NONE, x.go(102));
        DUE.same("the minute stays", 9699, x.count(6));
        DUE.same("stood stays", 9699, x.knight(0, 3));
        DUE.same("to be undone yet", 2, x.count(14));
        DUE.same("a new minute is not by", 1, x.undo());
        DUE.same("he is in it for as long", 9699, x.knight(0, 5));
        DUE.same("right at 9800", 9800, x.go(101));
        DUE.same("one more", NONE, x.go(1));
        DUE.same("an image of it", 9800, x.keep());
        DUE.same("the image", 9800, x.back());
        DUE.same("and none behind it", NONE, x.go(2));
    }

    private static void undo() {
        BathOrders x = Due.told("knight k 99 0;knight l 99 0;tub t 10 50;tub u 10 50;sit k t 0;");
        DUE.same("nothing", NONE, x.undo());
        x.go(3);
        DUE.same("nothing by minutes", NONE, x.undo());
        x.sit(0, 1);
        x.pour(0, 1, 3);
        x.sit(1, 0);
        x.rise(0);
        DUE.same("0 minutes", 3, x.go(0));
        DUE.same("left 3", 3, x.undo());
        knight("not risen", x, 0, 99, 0, 1, 3, 494, 0);
        DUE.same("left 2", 2, x.undo());
        tub("not sat down", x, 0, 7, 484, -2);
        DUE.same("left 1", 1, x.undo());
        tub("not poured", x, 0, 10, 484, -2);
        tub("not poured", x, 1, 10, 484, 0);
        DUE.same("left none", 0, x.undo());
        knight("where he was", x, 0, 99, 0, 0, 3, 494, 3);
        tub("who was in it", x, 0, 10, 484, 0);
        tub("nobody in it", x, 1, 10, 484, -2);
        DUE.same("none more", NONE, x.undo());
        x.add(0, 1);
        x.go(1);
        DUE.same("a minute went by", NONE, x.undo());
        for (int i = 0; i < 23; i++) {
            x.add(1, 1);
        }
        DUE.same("20 at most", 20, x.count(14));
        DUE.same("the latest", 19, x.undo());
        for (int i = 0; i < 19; i++) {
            DUE.same("litres by undoing", 32 - i, Due.tub(x, 1, 0));
            x.undo();
        }
        DUE.same("3 stay", 13, Due.tub(x, 1, 0));
        DUE.same("no more than 20", NONE, x.undo());
        x.add(0, 0);
        x.sit(5, 5);
        DUE.same("what wasn't done isn't undone", NONE, x.undo());
    }

    private static void images() {
        BathOrders x = Due.told("knight k 60 0;tub t 10 70;sit k t 0;sit k t 1;sit k t 2;seed 1;flinch 39;law rise 1;");
        DUE.same("no image", NONE, x.back());
        x.go(1);
        DUE.same("kept", 1, x.keep());
        x.go(2);
        knight("behind 3", x, 0, 61, 0, -2, 1, 0, 0, 2);
        DUE.same("sent off by then", 1, x.count(11));
        x.see(1, 0, 1, true);
        x.known(0);
        x.add(0, 3);
        DUE.same("back", 1, x.back());
        DUE.same("nothing to undo", NONE, x.undo());
        DUE.same("facts stay", 1, x.count(12));
        knight("behind 1", x, 0, 60, 0, -2, 0, 0, 0, 1);
        tub("behind 1", x, 0, 10, 690, -2);
        DUE.same("nobody sent off", 0, x.count(11));
        x.go(2);
        knight("the same numbers again", x, 0, 61, 0, -2, 1, 0, 0, 2);
        DUE.same("back once more", 1, x.back());
        x.go(4);
        DUE.same("kept in its place", 5, x.keep());
        x.go(1);
        DUE.same("back to the later one", 5, x.back());
        x.add(0, 1);
        x.keep();
        DUE.same("what is kept can be undone yet", 1, x.count(14));
    }
}
