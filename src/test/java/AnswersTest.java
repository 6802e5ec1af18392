/** Promises 15 to 34: what comes, what is best, what was seen, what would be otherwise. */
public final class AnswersTest {
    private static final int NONE = BathOrders.NONE;
    private static final Due DUE = new Due();

    public static void main(String[] args) {
        ahead();
        cools();
        flinches();
        order();
        addForAndCoal();
        together();
        match();
        game();
        tells();
        rests();
        steady();
        facts();
        factsOfOthers();
        ask();
        chance();
        tried();
        asksChangeNothing();
        asksBehindAsks();
        DUE.end();
    }

    private static void ahead() {
        String text = "knight k 49 0;tub t 10 50;sit k t 0;sit k t 4;can t 5 2;law cool 0;";
        BathOrders x = Due.told(text + "flinch 50;seed 1;");
        DUE.same("heat now", 500, x.ahead(0, 0, 0));
        DUE.same("litres now", 10, x.ahead(0, 1, 0));
        DUE.same("heat behind the can", 663, x.ahead(3, 0, 0));
        DUE.same("litres behind the can", 15, x.ahead(3, 1, 0));
        DUE.same("as it goes 50 is enough", 1, x.ahead(1, 4, -7));
        DUE.same("flinched twice", 2, x.ahead(200, 4, 0));
        DUE.same("stood", 0, x.ahead(200, 2, 0));
        x.go(1);
        DUE.same("flinched more", 1, x.ahead(199, 4, 0));
        DUE.same("below 0", NONE, x.ahead(-1, 0, 0));
        DUE.same("too many", NONE, x.ahead(201, 0, 0));
        DUE.same("no such tub", NONE, x.ahead(1, 0, 1));
        DUE.same("no such tub for litres", NONE, x.ahead(1, 1, -1));
        DUE.same("no such knight", NONE, x.ahead(1, 2, 1));
        DUE.same("no such knight for best", NONE, x.ahead(1, 3, -1));
        DUE.same("no such what", NONE, x.ahead(1, 5, 0));
        DUE.same("what below 0", NONE, x.ahead(1, -1, 0));
        x = Due.told(text + "flinch 49;seed 1;");
        DUE.same("49 is too little", 0, x.ahead(200, 4, 0));
        DUE.same("stood all the time", 200, x.ahead(200, 2, 0));
        DUE.same("but not at ease", 0, x.ahead(200, 3, 0));
        x = Due.told(text + "law ease 1;");
        DUE.same("best", 663, x.ahead(5, 3, 0));
        x = Due.told("knight k 49 0;knight l 99 0;tub t 10 50;sit l t 0;law cool 0;");
        DUE.same("stood of a knight beyond the tubs", 9, x.ahead(9, 2, 1));
        DUE.same("best of a knight beyond the tubs", 500, x.ahead(9, 3, 1));
        DUE.same("as many minutes as may be", 200, x.ahead(200, 2, 1));
    }

    private static void cools() {
        BathOrders x = Due.told("tub t 10 99;tub u 10 5;law cool 1;can u 9 1;");
        DUE.same("it is", 0, x.cools(0, 99));
        DUE.same("ten minutes", 10, x.cools(0, 98));
        DUE.same("190 minutes", 190, x.cools(0, 80));
        DUE.same("200 are too many", -2, x.cools(0, 79));
        DUE.same("0 degrees", -2, x.cools(1, 0));
        DUE.same("no such tub", NONE, x.cools(2, 50));
        DUE.same("tub below 0", NONE, x.cools(-1, 50));
        DUE.same("degrees below 0", NONE, x.cools(0, -1));
        DUE.same("100 degrees", NONE, x.cools(0, 100));
        x = Due.told("tub t 10 99;law cool (minute=198)*99;");
        DUE.same("199 minutes", 199, x.cools(0, 90));
        x = Due.told("tub t 10 99;law cool (minute=199)*99;");
        DUE.same("no 200 minutes", -2, x.cools(0, 90));
        x = Due.told("tub t 10 30;can t 9 0;law cool 0;");
        DUE.same("now, though it is hotter then", 0, x.cools(0, 30));
    }

    private static void flinches() {
        BathOrders x = Due.told("knight k 0 0;knight l 0 0;tub t 10 9;sit k t 0;law ease minute<198;");
        DUE.same("199 minutes", 199, x.flinches(0));
        DUE.same("in no tub", -2, x.flinches(1));
        x.go(198);
        DUE.same("this minute", 1, x.flinches(0));
        DUE.same("no such knight", NONE, x.flinches(2));
        DUE.same("knight below 0", NONE, x.flinches(-1));
        x = Due.told("knight k 0 0;tub t 10 9;sit k t 0;law ease minute<199;");
        DUE.same("200 are too many", -2, x.flinches(0));
        x = Due.told("knight k 0 0;tub t 10 99;sit k t 0;sit k t 7;");
        x.go(1);
        DUE.same("flinched already, next time", 7, x.flinches(0));
        x = Due.told("knight k 0 0;tub t 10 99;sit k t 0;flinch 49;");
        DUE.same("49 of a hundred", -2, x.flinches(0));
    }

    private static void order() {
        BathOrders x = Due.told("knight a 99 0;knight b 99 0;knight c 99 0;knight d 0 0;tub t 9 30;tub u 9 40;tub v 9 40;"
            + "tub w 9 90;sit a t 0;sit b u 1;sit c v 0;sit d w 0;law cool 0;");
        for (int k = 0; k < 4; k++) {
            DUE.same("at first by numbers", k, x.order(k));
        }
        x.go(3);
        DUE.same("best and stood most", 2, x.order(0));
        DUE.same("stood less", 1, x.order(1));
        DUE.same("best is less", 0, x.order(2));
        DUE.same("flinched", 3, x.order(3));
        DUE.same("no more", -2, x.order(4));
        DUE.same("far more", -2, x.order(Integer.MAX_VALUE));
        DUE.same("below 0", NONE, x.order(-1));
    }

    private static void addForAndCoal() {
        BathOrders x = Due.told("tub t 99 0;tub u 10 50;tub v 1 99;");
        DUE.same("60 litres", 60, x.addFor(0, 37));
        DUE.same("more than 60", -2, x.addFor(0, 38));
        DUE.same("it is so hot", 0, x.addFor(1, 50));
        // 10 of 500 and one of 990 are of 544; 3 are needed for 600.
        DUE.same("one litre", 1, x.addFor(1, 54));
        DUE.same("three litres", 3, x.addFor(1, 60));
        DUE.same("99 degrees", 0, x.addFor(2, 99));
        DUE.same("no such tub", NONE, x.addFor(3, 10));
        DUE.same("tub below 0", NONE, x.addFor(-1, 10));
        DUE.same("degrees below 0", NONE, x.addFor(0, -1));
        DUE.same("100 degrees", NONE, x.addFor(0, 100));
        DUE.same("coal 37", 60, x.coal(37));
        DUE.same("coal 38", -2, x.coal(38));
        DUE.same("coal 0", 0, x.coal(0));
        DUE.same("coal below 0", NONE, x.coal(-1));
        DUE.same("coal 100", NONE, x.coal(100));
        DUE.same("coal of no tubs", 0, new BathOrders().coal(99));
        x = Due.told("tub t 99 0;law cool 1;");
        for (int i = 0; i < 14; i++) {
            x.add(0, 60);
        }
        x.add(0, 57);
        // 996 litres: the tenth that is wanting comes by more than three more.
        for (int i = 0; i < 10 && Due.tub(x, 0, 1) % 10 != 9; i++) {
            x.go(1);
        }
        int heat = Due.tub(x, 0, 1);
        DUE.yes("60 litres would do", (996 * heat + 60 * 990) / 1056 > heat);
        DUE.same("no more than 999 litres", -2, x.addFor(0, (heat + 1) / 10));
        x = Due.told("tub t 10 50;tub u 10 50;");
        DUE.same("coal in sum", 6, x.coal(60));
        // 7 of 0 and 2 of 990 are of 220.
        x = Due.told("tub t 7 0;");
        DUE.same("just as hot", 2, x.addFor(0, 22));
        DUE.same("hotter than that", 3, x.addFor(0, 23));
    }

    private static void together() {
        BathOrders x = Due.told("tub t 3 10;tub u 5 20;tub v 7 0;");
        DUE.same("1300 by 8", 325, x.together(3, 0));
        DUE.same("by 2", 2, x.together(3, 1));
        DUE.same("one tub", 100, x.together(1, 0));
        DUE.same("by 1", 1, x.together(1, 1));
        DUE.same("none", 0, x.together(4, 0));
        DUE.same("none by 1", 1, x.together(4, 1));
        DUE.same("all", 260, x.together(7, 0));
        DUE.same("all by 3", 3, x.together(7, 1));
        DUE.same("no tub", NONE, x.together(0, 0));
        DUE.same("no such tub", NONE, x.together(8, 0));
        DUE.same("no such tub beside one", NONE, x.together(9, 1));
        DUE.same("below 0", NONE, x.together(-1, 0));
        DUE.same("no such what", NONE, x.together(1, 2));
        DUE.same("what below 0", NONE, x.together(1, -1));
    }

    private static void matched(String text, int... due) {
        BathOrders x = Due.told(text);
        for (int what = 0; what < due.length; what++) {
            DUE.same("match " + what + " of " + text, due[what], x.match(what));
        }
    }

    private static void match() {
        // As many as may be go ahead of heat: the hot one of both can only be the first one's.
        matched("knight a 90 0;knight b 40 0;tub t 9 40;tub u 9 80;", 1, 0, -2, -2, -2, -2, 2, 1200);
        matched("knight a 40 0;knight b 90 0;tub t 9 40;tub u 9 80;", 0, 1, -2, -2, -2, -2, 2, 1200);
        // Of several the first by knights, none last.
        matched("knight a 90 0;knight b 90 0;tub t 9 40;", 0, -2, -2, -2, -2, -2, 1, 400);
        matched("knight a 90 0;knight b 90 0;tub t 9 40;tub u 9 40;tub v 9 40;", 0, 1, -2, -2, -2, -2, 2, 800);
        matched("knight a 90 0;tub t 9 40;tub u 9 50;tub v 9 50;", 1, -2, -2, -2, -2, -2, 1, 500);
        matched("knight a 30 0;tub t 9 40;", -2, -2, -2, -2, -2, -2, 0, 0);
        matched("knight a 0 0;knight b 90 0;tub t 9 0;", 0, -2, -2, -2, -2, -2, 1, 0);
        // Two would have to share the only tub of one of them.
        matched("knight a 99 1;knight b 99 2;knight c 99 3;tub t 9 10;tub u 9 20;tub v 9 30;"
            + "law ease rank=1 and heat<25 or rank=2 and heat=20 or rank=3 and heat>15;",
            0, 1, 2, -2, -2, -2, 3, 600);
        // Six and six: knight by knight the only tub that leaves the later ones theirs.
        matched("knight a 60 0;knight b 50 0;knight c 40 0;knight d 30 0;knight e 20 0;knight f 10 0;"
            + "tub a 9 10;tub b 9 20;tub c 9 30;tub d 9 40;tub e 9 50;tub f 9 60;",
            5, 4, 3, 2, 1, 0, 6, 2100);
        BathOrders x = Due.told("knight a 90 0;knight b 90 0;tub t 9 40;law ease long=0;law cool 0;");
        x.sit(1, 0);
        x.go(1);
        DUE.same("though one is in it", 0, x.match(0));
        DUE.same("what below 0", NONE, x.match(-1));
        DUE.same("no such what", NONE, x.match(8));
    }

    private static void game() {
        BathOrders x = Due.told("tub t 1 0;tub u 99 0;tub v 9 99;tub w 9 50;");
        // One litre of 0 is of 742 by three litres, of 792 by four, of 825 by five.
        DUE.same("four may be added", 1, x.game(0, 80, 0));
        DUE.same("so he can't win", -2, x.game(0, 80, 1));
        DUE.same("three may be added", 0, x.game(0, 79, 0));
        DUE.same("all three", 3, x.game(0, 79, 1));
        DUE.same("two may be added", 2, x.game(0, 66, 1));
        DUE.same("one may be added", 1, x.game(0, 65, 1));
        DUE.same("by one he wins", 0, x.game(0, 65, 0));
        DUE.same("none may be added", 1, x.game(0, 49, 0));
        DUE.same("0 degrees, and it is", 1, x.game(0, 0, 0));
        DUE.same("108 may be added", 1, x.game(0, 98, 0));
        DUE.same("900 litres have room", 1, x.game(1, 98, 0));
        x.add(1, 1);
        DUE.same("899 litres have room", 3, x.game(1, 98, 1));
        DUE.same("hotter already", -2, x.game(2, 98, 0));
        DUE.same("hotter already, first", -2, x.game(2, 98, 1));
        DUE.same("as hot", 1, x.game(3, 50, 0));
        DUE.same("99 degrees", NONE, x.game(0, 99, 0));
        DUE.same("degrees below 0", NONE, x.game(0, -1, 0));
        DUE.same("no such tub", NONE, x.game(4, 50, 0));
        DUE.same("tub below 0", NONE, x.game(-1, 50, 0));
        DUE.same("no such what", NONE, x.game(0, 50, 2));
        DUE.same("what below 0", NONE, x.game(0, 50, -1));
    }

    private static void tells() {
        BathOrders x = Due.told("knight a 10 0;knight b 20 0;knight c 30 0;knight d 40 0;tub t 9 9;tub u 9 15;tub v 9 25;"
            + "tub w 9 35;tub x 9 45;");
        int[] due = {0, 1, 2, 1, 0};
        for (int tub = 0; tub < 5; tub++) {
            DUE.same("tells " + tub, due[tub], x.tells(tub));
        }
        DUE.same("no such tub", NONE, x.tells(5));
        DUE.same("tub below 0", NONE, x.tells(-1));
        DUE.same("no knights", 0, Due.told("tub t 9 9;").tells(0));
        x = Due.told("knight a 9 0;knight b 9 1;tub t 9 9;law ease long=0 and rank;");
        x.sit(1, 0);
        x.go(1);
        DUE.same("long 0 though he is in it", 1, x.tells(0));
    }

    private static void restsOf(int one, int other, int... due) {
        BathOrders x = Due.told("knight a 0 " + one + ";knight b 0 " + other + ";");
        String what = "rests of ranks " + one + ", " + other;
        DUE.same(what, due.length, x.rests(0, 1));
        for (int k = 0; k < due.length; k++) {
            DUE.same(what + ", " + k, due[k], x.rest(0, 1, k));
        }
        DUE.same(what + ", no more", -2, x.rest(0, 1, due.length));
    }

    private static void rests() {
        restsOf(0, 0, 1, 10);
        restsOf(3, 3, 0, 1, 10);
        restsOf(9, 9, 0);
        restsOf(4, 4, 0);
        restsOf(2, 2, 1, 10);
        restsOf(0, 9, 10);
        restsOf(9, 0, 1);
        restsOf(6, 3, 0, 1);
        restsOf(3, 6, 0, 10);
        BathOrders x = Due.told("knight a 0 6;knight b 0 3;");
        DUE.same("the other way round", 10, x.rest(1, 0, 1));
        DUE.same("alike", NONE, x.rests(0, 0));
        DUE.same("no such knight", NONE, x.rests(0, 2));
        DUE.same("knight below 0", NONE, x.rests(-1, 0));
        DUE.same("rest of alike", NONE, x.rest(1, 1, 0));
        DUE.same("rest of no such knight", NONE, x.rest(2, 0, 0));
        DUE.same("k below 0", NONE, x.rest(0, 1, -1));
        DUE.same("k far beyond", -2, x.rest(0, 1, Integer.MAX_VALUE));
    }

    private static void steadyOf(int flinch, int n, long above, long below) {
        BathOrders x = Due.told("flinch " + flinch + ";");
        DUE.same("above of " + n + " at " + flinch, above, x.steady(n, 0));
        DUE.same("below of " + n + " at " + flinch, below, x.steady(n, 1));
    }

    private static void steady() {
        steadyOf(1, 6, 941480149401L, 1000000000000L);
        steadyOf(50, 3, 1, 8);
        steadyOf(60, 2, 4, 25);
        steadyOf(0, 6, 1, 1);
        steadyOf(100, 6, 0, 1);
        steadyOf(100, 0, 1, 1);
        BathOrders x = new BathOrders();
        DUE.same("n below 0", NONE, x.steady(-1, 0));
        DUE.same("n 7", NONE, x.steady(7, 0));
        DUE.same("no such what", NONE, x.steady(1, 2));
        DUE.same("what below 0", NONE, x.steady(1, -1));
    }

    private static void facts() {
        // He stands as soon as the tub is no hotter than what he bears; 90 degrees, 9 less by a minute.
        BathOrders x = Due.told("knight k 20 0;tub t 10 99;sit k t 0;sit k t 1;sit k t 2;sit k t 3;sit k t 4;law cool 90;");
        // Behind minute 0 it is of 900, then 810, 720, 630, 540, and he gets in at the latest in minute 4.
        DUE.same("borne by no facts", 1023, x.borne(0));
        DUE.same("a fact", 0, x.see(2, 0, 1, true));
        DUE.same("810 at most", 512, x.borne(0));
        DUE.same("another fact", 1, x.see(3, 0, 1, false));
        DUE.same("both can't be", 0, x.borne(0));
        DUE.same("strikes the first", 2, x.strike(0));
        DUE.same("not by 3 minutes", 1023 - 512 - 256, x.borne(0));
        DUE.same("strikes what strikes", 3, x.strike(2));
        DUE.same("both count again", 0, x.borne(0));
        DUE.same("strikes the second", 4, x.strike(1));
        DUE.same("only the first", 512, x.borne(0));
        DUE.same("strikes that", 5, x.strike(3));
        DUE.same("struck what struck what strikes", 1023, x.borne(0));
        DUE.yes("known by 0", x.known(0));
        DUE.same("by how many", 0, x.count(13));
        DUE.same("borne by none", 1023, x.borne(0));
        int[] due = {1023, 512, 0, 1023 - 512 - 256, 0, 512, 1023};
        for (int n = 0; n <= 6; n++) {
            DUE.yes("known by " + n, x.known(n));
            DUE.same("by how many", n, x.count(13));
            DUE.same("borne by " + n, due[n], x.borne(0));
        }
        DUE.no("known by 7", x.known(7));
        DUE.no("known by -2", x.known(-2));
        DUE.same("one more", 6, x.see(1, 0, 0, false));
        DUE.same("not known", 1023, x.borne(0));
        DUE.yes("known by all", x.known(-1));
        DUE.same("fewer than 0 can't be", 0, x.borne(0));
        DUE.same("all there are", 7, x.count(13));
        DUE.same("0 minutes", NONE, x.see(0, 0, 0, true));
        DUE.same("61 minutes", NONE, x.see(61, 0, 0, true));
        DUE.same("no such knight", NONE, x.see(1, 1, 0, true));
        DUE.same("knight below 0", NONE, x.see(1, -1, 0, true));
        DUE.same("stood below 0", NONE, x.see(1, 0, -1, true));
        DUE.same("stood 100", NONE, x.see(1, 0, 100, true));
        DUE.same("strikes itself", NONE, x.strike(7));
        DUE.same("strikes below 0", NONE, x.strike(-1));
        for (int i = 7; i < 24; i++) {
            DUE.same("fact " + i, i, x.see(60, 0, 99, false));
        }
        DUE.same("a 25th", NONE, x.see(60, 0, 99, true));
        DUE.same("a 25th that strikes", NONE, x.strike(0));
        DUE.same("24 facts", 24, x.count(12));
        DUE.same("borne by no such knight", NONE, x.borne(1));
        DUE.same("borne below 0", NONE, x.borne(-1));
        lastFactStrikes();
    }

    private static void lastFactStrikes() {
        BathOrders x = Due.told("knight k 20 0;tub t 10 50;sit k t 0;law cool 0;");
        DUE.same("stood one minute", 0, x.see(1, 0, 1, true));
        for (int i = 1; i < 23; i++) {
            DUE.same("stood at least 0", i, x.see(60, 0, 0, true));
        }
        DUE.same("50 at least", 1023 - 31, x.borne(0));
        DUE.same("the last one strikes", 23, x.strike(0));
        DUE.same("any", 1023, x.borne(0));
        DUE.yes("all but the last one", x.known(23));
        DUE.same("50 at least again", 1023 - 31, x.borne(0));
        DUE.yes("known by 24", x.known(24));
        DUE.same("any again", 1023, x.borne(0));
        DUE.no("known by 25", x.known(25));
    }

    private static void factsOfOthers() {
        // The second one gets the tub in minute 1 only if the first one has flinched.
        String text = "knight a 99 0;knight b 99 0;tub t 10 50;sit a t 0;sit b t 1;law cool 0;";
        BathOrders x = Due.told(text);
        x.see(60, 1, 1, true);
        DUE.same("the first one bears less than 50", 31, x.borne(0));
        DUE.same("nothing that the second one bears makes it so", 0, x.borne(1));
        // What was done by call doesn't matter, nor what minute it is.
        x = Due.told(text);
        x.go(7);
        x.rise(0);
        x.add(0, 60);
        x.see(2, 1, 0, true);
        x.see(1, 0, 1, true);
        DUE.same("from the text on", 1023 - 31, x.borne(0));
        // As it goes: nobody flinches below 50.
        x = Due.told(text + "flinch 49;");
        x.see(60, 0, 60, true);
        DUE.same("stood all the time", 1023, x.borne(0));
    }

    private static void ask() {
        BathOrders x = Due.told("knight k 20 0;knight l 9 9;tub t 10 99;sit k t 0;sit k t 1;sit k t 2;sit k t 3;sit k t 4;"
            + "law cool 90;");
        // In it behind 1: bits 9; behind 2: 9; behind 3: 8, 9; behind 4: 7 .. 9; behind 5: 6 .. 9, and so on.
        DUE.same("behind 5", 5, x.ask(0, 0));
        DUE.same("6 are left", 6, x.ask(0, 1));
        DUE.same("he is never in a tub", 1, x.ask(1, 0));
        DUE.same("all are left", 10, x.ask(1, 1));
        x.see(5, 0, 1, true);
        DUE.same("BORNE 60 .. 90", 960, x.borne(0));
        DUE.same("behind 3", 3, x.ask(0, 0));
        DUE.same("2 are left", 2, x.ask(0, 1));
        x.see(5, 0, 1, false);
        DUE.same("none: 1", 1, x.ask(0, 0));
        DUE.same("none left", 0, x.ask(0, 1));
        DUE.same("no such knight", NONE, x.ask(2, 0));
        DUE.same("knight below 0", NONE, x.ask(-1, 0));
        DUE.same("no such what", NONE, x.ask(0, 2));
        DUE.same("what below 0", NONE, x.ask(0, -1));
        x = Due.told("knight k 20 0;tub t 10 99;sit k t 59;law ease bears>40 or minute<59;law cool 0;");
        DUE.same("behind 60", 60, x.ask(0, 0));
        DUE.same("5 are left", 5, x.ask(0, 1));
        x = Due.told("knight k 20 0;tub t 10 50;sit k t 0;law cool 0;");
        DUE.same("behind 1", 1, x.ask(0, 0));
        DUE.same("5 are left behind 1", 5, x.ask(0, 1));
    }

    private static void chance() {
        // From seed 1: 16838, 5758, 10113, 17515, 31051, 5627, 23010, 7419, 16212, 4086.
        String text = "knight k 0 0;knight l 0 0;tub t 10 99;sit k t 0;law cool 0;seed 77;flinch ";
        BathOrders x = Due.told(text + "50;");
        DUE.same("three are not below 50", 3, x.chance(1, 1, 0));
        DUE.yes("from seed 0 on the first one is 0", x.chance(0, 1, 0) >= 0 && x.chance(0, 1, 0) < 10);
        DUE.same("once more", 3, x.chance(1, 1, 0));
        DUE.same("never in a tub", 0, x.chance(1, 1, 1));
        DUE.same("nothing went by", 0, x.count(6));
        x = Due.told(text + "38;");
        DUE.same("four are not below 38", 4, x.chance(1, 1, 0));
        // Below 39, then 2749, 12767, 9084, 12060, 32225: 38; 58, 13; 15; 51, 27; 10; 19; 12 are out,
        // 86, 49; 67, 84 are in, 60, 25 are out.
        x = Due.told(text + "39;");
        DUE.same("one behind another", 2, x.chance(1, 2, 0));
        x = Due.told(text + "0;");
        DUE.same("nobody flinches", 10, x.chance(1, 99, 0));
        x = Due.told(text + "100;");
        DUE.same("all flinch", 0, x.chance(Integer.MAX_VALUE, 1, 0));
        DUE.same("seed below 0", NONE, x.chance(-1, 1, 0));
        DUE.same("0 minutes", NONE, x.chance(1, 0, 0));
        DUE.same("100 minutes", NONE, x.chance(1, 100, 0));
        DUE.same("no such knight", NONE, x.chance(1, 1, 2));
        DUE.same("knight below 0", NONE, x.chance(1, 1, -1));
        // The numbers of a call don't come out of those of minutes.
        x = Due.told("knight k 0 0;tub t 10 99;sit k t 0;law cool 0;seed 1;flinch 39;");
        x.chance(5, 9, 0);
        x.go(1);
        DUE.same("38 is below 39", 1, x.knight(0, 6));
    }

    private static void tried() {
        String text = "knight a 40 0;knight b 60 0;tub t 10 50;tub u 10 39;sit a t 0;sit b t 0;sit b u 1;sit a u 2;"
            + "can u 9 3;seed 5;";
        BathOrders x = Due.told(text + "law cool 5;flinch 49;");
        // a is in t of 495 .. 455 for 10 minutes and isn't at ease; b gets into u in minute 1.
        DUE.same("nobody flinches", 10 + 9, x.tried(1, 0, 10));
        DUE.same("who isn't at ease flinches", x.tried(0, 0, 10), Due.told(text + "law cool 5;flinch 100;").ahead(10, 2, 0)
            + Due.told(text + "law cool 5;flinch 100;").ahead(10, 2, 1));
        DUE.same("b gets into t without a", 10, x.tried(2, 0, 10));
        DUE.same("a stays in t without b", 10, x.tried(2, 1, 10));
        DUE.same("0 minutes", 0, x.tried(0, 0, 0));
        x.go(2);
        DUE.same("what was stood counts", 3, x.tried(1, 0, 0));
        x = Due.told("knight k 60 0;tub t 10 55;tub u 9 80;sit k t 0;can t 9 2;law cool 0;");
        // With the can it is of 758 in minute 2.
        DUE.same("with cans", 2, x.tried(0, 0, 9));
        DUE.same("no cans told", 9, x.tried(3, 0, 9));
        x = Due.told("knight k 60 0;tub t 10 62;sit k t 0;law cool 30;");
        DUE.same("it cools", 9, x.tried(0, 0, 9));
        DUE.same("nothing cools", 0, x.tried(4, 0, 9));
        DUE.same("200 minutes", 200, x.tried(0, 0, 200));
        DUE.same("what below 0", NONE, x.tried(-1, 0, 1));
        DUE.same("no such what", NONE, x.tried(5, 0, 1));
        DUE.same("n below 0", NONE, x.tried(0, 0, -1));
        DUE.same("n 201", NONE, x.tried(0, 0, 201));
        DUE.same("i not 0", NONE, x.tried(0, 1, 1));
        DUE.same("i below 0", NONE, x.tried(4, -1, 1));
        DUE.same("no such knight", NONE, x.tried(2, 1, 1));
        DUE.same("knight below 0", NONE, x.tried(2, -1, 1));
    }

    private static long asked(BathOrders x, int question) {
        return switch (question) {
            case 0 -> x.ahead(9, 2, 0);
            case 1 -> x.cools(1, 60);
            case 2 -> x.flinches(1);
            case 3 -> x.borne(1);
            case 4 -> x.ask(0, 1) + 100 * x.ask(0, 0);
            case 5 -> x.ask(1, 1) + 100 * x.ask(1, 0);
            case 6 -> x.chance(4, 5, 1);
            case 7 -> x.match(7);
            case 8 -> x.tried(0, 0, 9);
            case 9 -> x.tried(1, 0, 9);
            case 10 -> x.tried(2, 1, 9);
            case 11 -> x.tried(3, 0, 9);
            case 12 -> x.tried(4, 0, 9);
            default -> x.go(1) + 10000L * x.count(9) + 1000000L * Due.tub(x, 0, 1);
        };
    }

    /** What one question leaves behind is nothing to the next one, nor to a minute. */
    private static void asksBehindAsks() {
        String text = "knight a 40 3;knight b 60 5;tub t 10 50;tub u 20 62;sit a t 0;sit b u 0;sit b u 3;can t 5 1;pipe t u 2;"
            + "flinch 50;seed 3;law rise 1;";
        for (int first = 0; first < 13; first++) {
            for (int second = 0; second < 14; second++) {
                BathOrders x = Due.told(text);
                asked(x, first);
                DUE.same("question " + second + " behind " + first, asked(Due.told(text), second), asked(x, second));
            }
        }
    }

    private static void asksChangeNothing() {
        String text = "knight a 40 3;knight b 60 5;tub t 10 50;tub u 20 60;sit a t 0;sit b u 0;can t 5 1;pipe t u 2;"
            + "flinch 50;seed 3;law rise 1;";
        BathOrders x = Due.told(text);
        BathOrders y = Due.told(text);
        for (int i = 0; i < 8; i++) {
            x.ahead(50, 0, 0);
            x.cools(0, 10);
            x.flinches(0);
            x.addFor(0, 70);
            x.coal(70);
            x.together(3, 0);
            x.match(0);
            x.game(0, 80, 0);
            x.tells(0);
            x.steady(2, 0);
            x.borne(0);
            x.ask(1, 0);
            x.chance(9, 9, 0);
            for (int what = 0; what < 5; what++) {
                x.tried(what, 0, 9);
            }
            x.law(2, 0, 0);
            x.atEase(0, 0);
            for (int what = 0; what < 15; what++) {
                DUE.same("count " + what + " behind questions", y.count(what), x.count(what));
            }
            for (int what = 0; what < 7; what++) {
                DUE.same("knight behind questions", y.knight(0, what), x.knight(0, what));
                DUE.same("the other knight behind questions", y.knight(1, what), x.knight(1, what));
            }
            for (int what = 0; what < 3; what++) {
                DUE.same("tub behind questions", Due.tub(y, 0, what), Due.tub(x, 0, what));
            }
            x.go(1);
            y.go(1);
        }
    }
}
