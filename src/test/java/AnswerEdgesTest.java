/** The edges of ==== 3. and of promises 15 to 27: what comes, how little, matched, played, told apart. */
public final class AnswerEdgesTest {
    private static final int NONE = BathOrders.NONE;
    private static final int[] FAR = {Integer.MIN_VALUE, Integer.MIN_VALUE + 1, -256, -2, -1, 201, 256, 65536,
        Integer.MAX_VALUE};
    private static final Edges EDGES = new Edges();

    public static void main(String[] args) {
        terms();
        ahead();
        cools();
        flinches();
        order();
        addFor();
        coal();
        together();
        match();
        game();
        tells();
        rests();
        rest();
        steady();
        EDGES.end(args);
    }

    /** Cans by call until a tub told with 99 litres has so many. */
    private static void fill(BathOrders x, int tub, int litres) {
        for (int left = litres - 99; left > 0; left -= 60) {
            x.add(tub, Math.min(60, left));
        }
    }

    private static int heat(BathOrders x, int tub) {
        return Due.tub(x, tub, 1);
    }

    private static BathOrders sixOfEach() {
        StringBuilder text = new StringBuilder();
        for (char name = 'a'; name <= 'f'; name++) {
            text.append("knight ").append(name).append(" 30 5;tub ").append(name).append(" 7 30;");
        }
        return Due.told(text.toString());
    }

    private static void terms() {
        EDGES.numbered(3);
        EDGES.sentence("in how many MINUTES as it goes, 199 at most, HEAT of a TUB is ten times as many at most (0: it is).");
        for (int minute = 196; minute <= 201; minute++) {
            BathOrders x = Due.told("tub t 10 99;law cool (minute=" + minute + ")*10;");
            EDGES.same("cools in minute " + minute, minute < 199 ? minute + 1 : -2, x.cools(0, 98));
        }
        EDGES.same("it is", 0, Due.told("tub t 10 99;").cools(0, 99));
        EDGES.sentence("in how many MINUTES as it goes, 199 at most (1: this one), he FLINCHES next (be he in a TUB now or not).");
        for (int minute = 196; minute <= 201; minute++) {
            BathOrders x = Due.told("knight k 0 0;tub t 10 99;sit k t 0;law ease minute<" + minute + ";");
            EDGES.same("flinches in minute " + minute, minute < 199 ? minute + 1 : -2, x.flinches(0));
            x.go(1);
            EDGES.same("flinches in minute " + minute + ", from 1 on", minute < 200 ? minute : -2, x.flinches(0));
        }
        EDGES.sentence("ORDER: KNIGHTS by BEST, the most first, of like BEST by STOOD, the most first, then by numbers.");
        BathOrders x = Due.told("knight a 50 0;knight b 50 0;knight c 50 0;knight d 50 0;tub t 9 30;tub u 9 30;tub v 9 40;"
            + "tub w 9 30;sit a t 1;sit b u 0;sit c v 2;sit d w 1;law cool 0;");
        for (int k = 0; k < 4; k++) {
            EDGES.same("all alike", k, x.order(k));
        }
        x.go(3);
        int[] due = {2, 1, 0, 3};
        for (int k = 0; k < 4; k++) {
            EDGES.same("behind 3", due[k], x.order(k));
        }
        EDGES.sentence("ADD for degrees: the fewest LITRES 1 .. 60 that MIXED as one CAN into a TUB now make its HEAT ten times as many at least.");
        // 7 of 0 and 2 of 990 are of 220 at once; litre by litre they would be of 219.
        EDGES.same("just so many", 2, Due.told("tub t 7 0;").addFor(0, 22));
        EDGES.same("as one can", 219, (8 * Due.told("tub t 7 0;").add(0, 1) + 990) / 9);
        EDGES.same("one is enough", 1, Due.told("tub t 7 0;").addFor(0, 12));
        EDGES.sentence("(0 of those that are so hot, of no TUBS)");
        EDGES.same("no tubs", 0, new BathOrders().coal(99));
        EDGES.same("so hot", 0, Due.told("tub t 9 50;tub u 9 99;").coal(50));
    }

    private static void ahead() {
        EDGES.promise(15);
        EDGES.sentence("AHEAD (n 0 .. 200), what 0 HEAT, 1 LITRES of TUB i, 2 STOOD, 3 BEST of KNIGHT i, 4 FLINCHED (i isn't looked at).");
        BathOrders x = Due.told("knight k 50 0;knight l 0 0;tub t 9 50;tub u 9 50;sit k t 0;sit l u 0;sit l u 99;sit l t 50;"
            + "can t 1 99;law cool minute=50;");
        int[] now = {500, 9, 0, 0, 0};
        for (int what = 0; what <= 4; what++) {
            EDGES.same("now, what " + what, now[what], x.ahead(0, what, 0));
        }
        // 9 of 499 and 1 of 990 are of 548, too hot for who bears 50.
        int[] then = {548, 10, 99, 500, 3};
        for (int what = 0; what <= 4; what++) {
            EDGES.same("200 ahead, what " + what, then[what], x.ahead(200, what, 0));
        }
        for (int i : FAR) {
            EDGES.same("i " + i + " of FLINCHED", 1, x.ahead(99, 4, i));
        }
        x.go(1);
        EDGES.same("flinched by now", 1, x.count(10));
        EDGES.same("flinched more", 0, x.ahead(98, 4, 0));
        EDGES.same("flinched more in minute 99", 2, x.ahead(99, 4, 0));
        EDGES.same("the minute stays", 1, x.count(6));
        BathOrders six = sixOfEach();
        EDGES.same("the last tub", 300, six.ahead(0, 0, 5));
        EDGES.same("the last tub's litres", 7, six.ahead(200, 1, 5));
        EDGES.same("the last knight", 0, six.ahead(200, 2, 5));
        BathOrders late = Due.told("tub t 9 9;law cool minute>=9999;");
        for (int i = 0; i < 49; i++) {
            late.go(200);
        }
        EDGES.same("up to minute 9999", 90, late.ahead(199, 0, 0));
        EDGES.same("in minute 9999", 89, late.ahead(200, 0, 0));
        EDGES.sentence("NONE: no such ones.");
        for (int far : FAR) {
            EDGES.same("n " + far, NONE, six.ahead(far, 4, 0));
            EDGES.same("what " + far, NONE, six.ahead(1, far, 0));
            for (int what = 0; what < 4; what++) {
                EDGES.same("i " + far + " of what " + what, NONE, six.ahead(1, what, far));
            }
        }
        EDGES.same("what 5", NONE, six.ahead(1, 5, 0));
        for (int what = 0; what < 4; what++) {
            EDGES.same("a seventh of what " + what, NONE, six.ahead(1, what, 6));
        }
        BathOrders tubs = Due.told("tub t 9 9;");
        BathOrders knights = Due.told("knight k 9 9;");
        for (int what = 0; what < 4; what++) {
            EDGES.same("tubs alone, " + what, what < 2 ? new int[] {90, 9}[what] : NONE, tubs.ahead(1, what, 0));
            EDGES.same("knights alone, " + what, what < 2 ? NONE : 0, knights.ahead(1, what, 0));
        }
        EDGES.refused("a question", 1, State::busy, y -> y.ahead(200, 1, 1) > 0 ? 1 : 0);
    }

    private static void cools() {
        EDGES.promise(16);
        EDGES.sentence("COOLS to degrees 0 .. 99");
        BathOrders x = Due.told("tub t 10 99;tub u 10 1;law cool 5;can u 9 9;");
        EDGES.same("99 degrees", 0, x.cools(0, 99));
        EDGES.same("98 degrees", 2, x.cools(0, 98));
        EDGES.same("0 degrees", 198, x.cools(0, 0));
        EDGES.same("0 degrees of the other one", 2, x.cools(1, 0));
        EDGES.sentence("-2: not by then");
        BathOrders slow = Due.told("tub t 10 99;tub u 10 20;law cool 1;");
        EDGES.same("0 degrees by 1", -2, slow.cools(0, 0));
        EDGES.same("0 degrees by 1 from 20 on", -2, slow.cools(1, 0));
        EDGES.same("1 degree by 1 from 20 on", 190, slow.cools(1, 1));
        EDGES.same("never", -2, Due.told("tub t 10 20;").cools(0, 19));
        // Hotter first: the first time that it is so.
        BathOrders can = Due.told("tub t 9 50;can t 9 0;law cool 0;");
        EDGES.same("as it is", 0, can.cools(0, 50));
        EDGES.same("not behind the can", -2, can.cools(0, 49));
        EDGES.sentence("NONE: no such ones.");
        for (int far : FAR) {
            EDGES.same("tub " + far, NONE, x.cools(far, 50));
            EDGES.same("degrees " + far, NONE, x.cools(0, far));
        }
        EDGES.same("100 degrees", NONE, x.cools(0, 100));
        EDGES.same("a third of two", NONE, x.cools(2, 50));
        EDGES.same("a seventh", NONE, sixOfEach().cools(6, 50));
        EDGES.same("the sixth", 0, sixOfEach().cools(5, 50));
        EDGES.same("one of none", NONE, new BathOrders().cools(0, 0));
        EDGES.refused("a question", -2, State::busy, y -> y.cools(0, 0));
    }

    private static void flinches() {
        EDGES.promise(17);
        EDGES.sentence("FLINCH; -2: not by then");
        BathOrders x = Due.told("knight a 0 0;knight b 0 0;knight c 99 0;tub t 9 50;tub u 9 50;sit b t 98;sit c u 0;");
        EDGES.same("in none for good", -2, x.flinches(0));
        EDGES.same("in none, then in one", 99, x.flinches(1));
        EDGES.same("at ease for good", -2, x.flinches(2));
        x.sit(0, 0);
        EDGES.same("in one by call", 1, x.flinches(0));
        x.go(1);
        EDGES.same("flinched, and no more", -2, x.flinches(0));
        EDGES.same("from 1 on", 98, x.flinches(1));
        EDGES.sentence("NONE: no such KNIGHT.");
        for (int far : FAR) {
            EDGES.same("knight " + far, NONE, x.flinches(far));
        }
        EDGES.same("a fourth of three", NONE, x.flinches(3));
        EDGES.same("a seventh", NONE, sixOfEach().flinches(6));
        EDGES.same("the sixth", -2, sixOfEach().flinches(5));
        EDGES.same("one of none", NONE, new BathOrders().flinches(0));
        EDGES.refused("a question", 1, State::busy, y -> y.flinches(0) == NONE ? 0 : 1);
    }

    private static void order() {
        EDGES.promise(18);
        EDGES.sentence("The k-th of the ORDER, from 0 on");
        BathOrders x = sixOfEach();
        for (int k = 0; k < 6; k++) {
            EDGES.same("all alike, " + k, k, x.order(k));
        }
        EDGES.sentence("-2: there are no so many; NONE: k is below 0.");
        EDGES.same("a seventh", -2, x.order(6));
        EDGES.same("no knights", -2, new BathOrders().order(0));
        EDGES.same("no knights, below 0", NONE, new BathOrders().order(-1));
        for (int far : FAR) {
            EDGES.same("k " + far, far < 0 ? NONE : -2, x.order(far));
        }
        x.sit(5, 3);
        x.go(1);
        EDGES.same("the last one is the first", 5, x.order(0));
        EDGES.same("then by numbers", 0, x.order(1));
        EDGES.same("the one ahead of him is the last", 4, x.order(5));
    }

    /** So many litres whose HEAT is one tenth below a degree that has room for heat enough above it. */
    private static BathOrders tenthBelow(int litres) {
        BathOrders x = Due.told("tub t 99 0;law cool 99*(minute<3)+(minute>=3);");
        fill(x, 0, litres);
        x.go(3);
        for (int i = 0; i < 10 && heat(x, 0) % 10 != 9; i++) {
            x.go(1);
        }
        return x;
    }

    private static void addFor() {
        EDGES.promise(19);
        EDGES.sentence("ADD for degrees 0 .. 99 (0: it is so hot; no more than 999 LITRES in all)");
        BathOrders x = Due.told("tub t 99 0;tub u 10 50;tub v 1 99;");
        EDGES.same("0 degrees, and it is", 0, x.addFor(0, 0));
        EDGES.same("50 degrees, and it is", 0, x.addFor(1, 50));
        EDGES.same("99 degrees, and it is", 0, x.addFor(2, 99));
        EDGES.same("51 degrees", 1, x.addFor(1, 51));
        // 99 of 0 and 60 of 990 are of 373.58, and 59 of 369.68.
        EDGES.same("60 litres", 60, x.addFor(0, 37));
        EDGES.same("59 litres", 59, Due.told("tub t 98 0;").addFor(0, 37));
        // A tenth that is wanting in 996 litres of some 60 degrees is there by three.
        BathOrders room = tenthBelow(996);
        EDGES.same("999 in all", 3, room.addFor(0, (heat(room, 0) + 1) / 10));
        EDGES.same("as hot as it is", 0, room.addFor(0, heat(room, 0) / 10));
        EDGES.sentence("-2: not by 60, nor by so many");
        EDGES.same("not by 60", -2, x.addFor(0, 38));
        EDGES.same("99 degrees of what is less hot", -2, x.addFor(1, 99));
        EDGES.same("98 degrees of little", -2, Due.told("tub t 10 50;").addFor(0, 98));
        BathOrders less = tenthBelow(997);
        EDGES.same("1000 in all", -2, less.addFor(0, (heat(less, 0) + 1) / 10));
        BathOrders full = tenthBelow(999);
        EDGES.same("full", -2, full.addFor(0, (heat(full, 0) + 1) / 10));
        EDGES.same("full, but so hot", 0, full.addFor(0, heat(full, 0) / 10));
        EDGES.sentence("NONE: no such ones.");
        for (int far : FAR) {
            EDGES.same("tub " + far, NONE, x.addFor(far, 50));
            EDGES.same("degrees " + far, NONE, x.addFor(0, far));
        }
        EDGES.same("100 degrees", NONE, x.addFor(2, 100));
        EDGES.same("a fourth of three", NONE, x.addFor(3, 0));
        EDGES.same("a seventh", NONE, sixOfEach().addFor(6, 0));
        EDGES.same("the sixth", 1, sixOfEach().addFor(5, 31));
        EDGES.same("one of none", NONE, new BathOrders().addFor(0, 0));
    }

    private static void coal() {
        EDGES.promise(20);
        EDGES.sentence("COAL for degrees 0 .. 99");
        BathOrders x = Due.told("tub t 99 0;tub u 10 50;");
        EDGES.same("0 degrees", 0, x.coal(0));
        EDGES.same("60 of one, none of the other", 60, x.coal(37));
        EDGES.same("six tubs", 6, sixOfEach().coal(31));
        EDGES.same("six times 60", 360, Due.told("tub a 99 0;tub b 99 0;tub c 99 0;tub d 99 0;tub e 99 0;tub f 99 0;").coal(37));
        EDGES.same("99 degrees, and they are", 0, Due.told("tub t 10 99;tub u 99 99;").coal(99));
        EDGES.same("no tubs", 0, new BathOrders().coal(99));
        EDGES.sentence("-2: not by 60 of one");
        EDGES.same("not by 60 of one", -2, x.coal(38));
        EDGES.same("99 degrees", -2, x.coal(99));
        EDGES.same("not by 60 of the last one", -2, Due.told("tub t 10 50;tub u 99 0;").coal(38));
        BathOrders full = tenthBelow(999);
        EDGES.same("not by the room of one", -2, full.coal((heat(full, 0) + 1) / 10));
        EDGES.sentence("NONE: no such number.");
        for (int far : FAR) {
            EDGES.same("degrees " + far, NONE, x.coal(far));
            EDGES.same("degrees " + far + " of no tubs", NONE, new BathOrders().coal(far));
        }
        EDGES.same("100 degrees", NONE, x.coal(100));
    }

    private static void together() {
        EDGES.promise(21);
        EDGES.sentence("TOGETHER of TUBS (bits, 1 at least) in least terms, what 0: the number above, 1: the one below.");
        BathOrders x = Due.told("tub a 99 99;tub b 1 0;tub c 2 0;tub d 3 10;tub e 5 20;tub f 7 33;");
        int[][] rows = {{1, 990, 1}, {2, 0, 1}, {6, 0, 1}, {32, 330, 1}, {24, 325, 2}, {3, 9801, 10}, {33, 50160, 53},
            {63, 101620, 117}};
        for (int[] row : rows) {
            EDGES.same("above of " + row[0], row[1], x.together(row[0], 0));
            EDGES.same("below of " + row[0], row[2], x.together(row[0], 1));
        }
        // As much as may be: six times 999 litres of some 900.
        BathOrders full = Due.told("tub a 99 99;tub b 99 99;tub c 99 99;tub d 99 99;tub e 99 99;tub f 99 98;");
        for (int tub = 0; tub < 6; tub++) {
            fill(full, tub, 999);
        }
        EDGES.same("full ones, above", 990, full.together(31, 0));
        EDGES.same("full ones, below", 1, full.together(31, 1));
        EDGES.same("heat of the last one", 985, heat(full, 5));
        EDGES.same("all full ones, above", 5 * 990 + 985, full.together(63, 0));
        EDGES.same("all full ones, below", 6, full.together(63, 1));
        EDGES.sentence("NONE: no such ones.");
        int[] wrong = {0, -1, 64, 65, 127, 1 << 30, Integer.MIN_VALUE, Integer.MIN_VALUE + 1, Integer.MAX_VALUE};
        for (int tubs : wrong) {
            EDGES.same("tubs " + tubs, NONE, x.together(tubs, 0));
            EDGES.same("tubs " + tubs + ", below", NONE, x.together(tubs, 1));
        }
        EDGES.same("a third of two", NONE, State.busy().together(4, 0));
        EDGES.same("a third of two beside them", NONE, State.busy().together(7, 1));
        EDGES.same("no tubs", NONE, new BathOrders().together(0, 0));
        EDGES.same("one of none", NONE, new BathOrders().together(1, 0));
        EDGES.same("what 2", NONE, x.together(1, 2));
        for (int far : FAR) {
            EDGES.same("what " + far, NONE, x.together(1, far));
        }
    }

    private static void matched(String text, int... due) {
        BathOrders x = Due.told(text);
        for (int what = 0; what < due.length; what++) {
            EDGES.same("match " + what + " of " + text, due[what], x.match(what));
        }
    }

    private static void match() {
        EDGES.numbered(3);
        EDGES.sentence("for each KNIGHT a TUB in which he would be AT EASE now (as if in none, long 0, STOOD as now), or none, none for two, so that as many as may be have one, then so that HEAT of these in sum is most, of several the first by KNIGHTS (TUBS by numbers, none is last).");
        matched("knight a 9 0;knight b 9 0;tub t 9 9;", 0, -2, -2, -2, -2, -2, 1, 90);
        matched("knight a 8 0;knight b 9 0;tub t 9 9;", -2, 0, -2, -2, -2, -2, 1, 90);
        // Two of 0 are more than one of 990.
        matched("knight a 99 1;knight b 99 2;tub t 9 0;tub u 9 99;tub v 9 0;law ease rank=1 and heat=99 or rank=2 and heat=99;",
            1, -2, -2, -2, -2, -2, 1, 990);
        matched("knight a 99 1;knight b 99 2;tub t 9 0;tub u 9 0;tub v 9 99;law ease rank=1 or heat=0;",
            2, 0, -2, -2, -2, -2, 2, 990);
        matched("knight a 0 0;knight b 99 0;tub t 9 0;tub u 9 99;", 0, 1, -2, -2, -2, -2, 2, 990);
        matched("knight a 99 0;knight b 0 0;tub t 9 0;tub u 9 99;", 1, 0, -2, -2, -2, -2, 2, 990);
        matched("knight a 99 0;tub t 9 5;tub u 9 7;tub v 9 7;", 1, -2, -2, -2, -2, -2, 1, 70);
        matched("knight a 99 0;knight b 99 0;knight c 99 0;tub t 9 0;", 0, -2, -2, -2, -2, -2, 1, 0);
        BathOrders x = Due.told("knight a 99 0;knight b 99 0;tub t 9 5;tub u 9 5;law ease long=0 and stood=2;");
        x.sit(0, 1);
        x.go(1);
        EDGES.same("flinched: stood 0", 0, x.match(6));
        x = Due.told("knight a 99 0;knight b 99 0;tub t 9 5;tub u 9 5;law ease long=0 and stood=2;flinch 0;");
        x.sit(0, 1);
        x.go(2);
        EDGES.same("stood 2, as if in none", 0, x.match(0));
        EDGES.same("the other one stood 0", -2, x.match(1));
        EDGES.promise(22);
        EDGES.sentence("MATCH, what 0 .. 5: the TUB of that KNIGHT (-2: none, there are not so many), 6: how many have one, 7: HEAT in sum.");
        matched("", -2, -2, -2, -2, -2, -2, 0, 0);
        matched("knight a 99 0;", -2, -2, -2, -2, -2, -2, 0, 0);
        matched("tub t 9 9;", -2, -2, -2, -2, -2, -2, 0, 0);
        matched("knight a 0 0;tub t 9 1;", -2, -2, -2, -2, -2, -2, 0, 0);
        BathOrders six = sixOfEach();
        for (int what = 0; what < 6; what++) {
            EDGES.same("six and six, " + what, what, six.match(what));
        }
        EDGES.same("six have one", 6, six.match(6));
        EDGES.same("heat in sum", 1800, six.match(7));
        matched("knight a 99 0;knight b 99 0;knight c 99 0;knight d 99 0;knight e 99 0;knight f 99 0;tub a 9 99;tub b 9 99;"
            + "tub c 9 99;tub d 9 99;tub e 9 99;tub f 9 99;", 0, 1, 2, 3, 4, 5, 6, 5940);
        EDGES.sentence("NONE for another what.");
        EDGES.same("what 8", NONE, six.match(8));
        for (int far : FAR) {
            EDGES.same("what " + far, NONE, six.match(far));
            EDGES.same("what " + far + " of none", NONE, new BathOrders().match(far));
        }
    }

    private static void game() {
        EDGES.numbered(3);
        EDGES.sentence("who makes it more than ten times as many, loses (who makes LITRES more than 999, too)");
        // One litre of 0: 495, 660, 742, 792, 825 by one to five.
        int[][] rows = {{0, 1, -2}, {49, 1, -2}, {50, 0, 1}, {65, 0, 1}, {66, 0, 2}, {74, 0, 2}, {75, 0, 3}, {79, 0, 3},
            {80, 1, -2}, {82, 1, -2}, {83, 0, 1}};
        for (int[] row : rows) {
            BathOrders x = Due.told("tub t 1 0;");
            EDGES.same("who wins by " + row[0], row[1], x.game(0, row[0], 0));
            EDGES.same("by how many litres by " + row[0], row[2], x.game(0, row[0], 1));
        }
        int[][] full = {{999, 1, -2}, {998, 0, 1}, {997, 0, 2}, {996, 0, 3}, {995, 1, -2}, {994, 0, 1}, {939, 1, -2}};
        for (int[] row : full) {
            BathOrders x = Due.told("tub t 99 0;");
            fill(x, 0, row[0]);
            EDGES.same("who wins by litres of " + row[0], row[1], x.game(0, 98, 0));
            EDGES.same("by how many of " + row[0], row[2], x.game(0, 98, 1));
        }
        // As hot as told isn't hotter: 7 of 0 and 2 of 990 are of 220.
        EDGES.same("as hot by two", 2, Due.told("tub t 7 0;").game(0, 22, 1));
        EDGES.same("hotter by two", 1, Due.told("tub t 7 0;").game(0, 21, 1));
        EDGES.promise(23);
        EDGES.sentence("GAME for degrees 0 .. 98, what 0: who wins (0: who begins, 1: the other one; -2: it is hotter than that already), 1: how many LITRES who begins adds first, the fewest by which he wins (-2: he can't win, it is hotter already).");
        BathOrders x = Due.told("tub t 9 50;tub u 9 0;tub v 9 99;tub w 99 0;tub x 9 98;");
        EDGES.same("hotter", -2, x.game(0, 49, 0));
        EDGES.same("hotter, first", -2, x.game(0, 49, 1));
        EDGES.same("as hot", 1, x.game(0, 50, 0));
        EDGES.same("as hot, first", -2, x.game(0, 50, 1));
        EDGES.same("0 degrees, and it is", 1, x.game(1, 0, 0));
        EDGES.same("hotter than 98", -2, x.game(2, 98, 0));
        EDGES.same("hotter than 98, first", -2, x.game(2, 98, 1));
        EDGES.same("98, and it is", 1, x.game(4, 98, 0));
        EDGES.same("98, and it is, first", -2, x.game(4, 98, 1));
        // Hotter by a tenth: 99 of 0 and 1 of 990 are of 9.
        EDGES.same("0 degrees yet", 1, x.game(3, 0, 0));
        x.add(3, 1);
        EDGES.same("hotter by less than a degree", -2, x.game(3, 0, 0));
        EDGES.same("not hotter than one degree", 1, x.game(3, 1, 0));
        EDGES.sentence("NONE: no such ones.");
        for (int far : FAR) {
            EDGES.same("tub " + far, NONE, x.game(far, 50, 0));
            EDGES.same("degrees " + far, NONE, x.game(0, far, 0));
            EDGES.same("what " + far, NONE, x.game(0, 50, far));
        }
        EDGES.same("99 degrees", NONE, x.game(0, 99, 0));
        EDGES.same("99 degrees of what is as hot", NONE, x.game(2, 99, 1));
        EDGES.same("what 2", NONE, x.game(0, 50, 2));
        EDGES.same("what 2 of a hotter one", NONE, x.game(0, 49, 2));
        EDGES.same("a sixth of five", NONE, x.game(5, 50, 0));
        EDGES.same("a seventh", NONE, sixOfEach().game(6, 50, 0));
        EDGES.same("the sixth", -2, sixOfEach().game(5, 29, 0));
        EDGES.same("one of none", NONE, new BathOrders().game(0, 50, 0));
    }

    private static void tells() {
        EDGES.numbered(3);
        EDGES.sentence("the fewer of both sorts (half of them, if these are as many)");
        String[] knights = {"", "knight a 9 0;", "knight b 9 0;", "knight c 9 0;", "knight d 10 0;", "knight e 10 0;",
            "knight f 10 0;"};
        int[] due = {0, 0, 0, 0, 1, 2, 3};
        StringBuilder text = new StringBuilder("tub t 9 10;tub u 9 0;tub v 9 99;");
        for (int i = 0; i < knights.length; i++) {
            text.append(knights[i]);
            BathOrders x = Due.told(text.toString());
            EDGES.same("of " + i + " knights", due[i], x.tells(0));
            EDGES.same("all at ease of " + i, 0, x.tells(1));
            EDGES.same("nobody at ease of " + i, 0, x.tells(2));
        }
        EDGES.sentence("whether they are AT EASE in it now (as in MATCH) as of the most others");
        BathOrders in = Due.told("knight a 9 0;knight b 9 0;knight c 9 1;tub t 9 9;law ease long=0 and (rank or stood<2);flinch 0;");
        in.sit(0, 0);
        in.go(1);
        EDGES.same("in it for 1, as if in none", 0, in.tells(0));
        in.go(1);
        EDGES.same("stood 2", 1, in.tells(0));
        EDGES.promise(24);
        EDGES.sentence("NONE: no such TUB.");
        BathOrders x = Due.told(text.toString());
        EDGES.same("the last one of three", 0, x.tells(2));
        EDGES.same("a fourth of three", NONE, x.tells(3));
        EDGES.same("a seventh", NONE, sixOfEach().tells(6));
        EDGES.same("the sixth", 0, sixOfEach().tells(5));
        EDGES.same("one of none", NONE, new BathOrders().tells(0));
        for (int far : FAR) {
            EDGES.same("tub " + far, NONE, x.tells(far));
        }
    }

    private static BathOrders two(int one, int other) {
        return Due.told("knight a 0 " + one + ";knight b 0 " + other + ";");
    }

    /** Stays against one who stays is no worse from rank 3 on, rises against him up to 3. */
    private static int[] restsDue(int one, int other) {
        int many = (one >= 3 && other >= 3 ? 1 : 0) + (other <= 3 ? 1 : 0) + (one <= 3 ? 1 : 0);
        int[] due = new int[many];
        int at = one >= 3 && other >= 3 ? 1 : 0;
        if (other <= 3) {
            due[at++] = 1;
        }
        if (one <= 3) {
            due[at] = 10;
        }
        return due;
    }

    private static void rests() {
        EDGES.numbered(3);
        EDGES.sentence("both rise: each has its RANK by 2, cut. A REST: neither would have more otherwise. RESTS: by the first one's, then the second one's.");
        for (int one = 0; one <= 9; one++) {
            for (int other = 0; other <= 9; other++) {
                BathOrders x = two(one, other);
                int[] due = restsDue(one, other);
                EDGES.same("rests of ranks " + one + ", " + other, due.length, x.rests(0, 1));
                for (int k = 0; k < due.length; k++) {
                    EDGES.same("rest " + k + " of ranks " + one + ", " + other, due[k], x.rest(0, 1, k));
                }
            }
        }
        EDGES.promise(25);
        EDGES.sentence("How many RESTS STAY has");
        BathOrders x = sixOfEach();
        EDGES.same("the last ones", 1, x.rests(5, 4));
        EDGES.same("three of 3 and 3", 3, two(3, 3).rests(0, 1));
        EDGES.sentence("NONE: no such KNIGHTS, alike.");
        for (int knight = 0; knight < 6; knight++) {
            EDGES.same("alike", NONE, x.rests(knight, knight));
        }
        EDGES.same("a seventh", NONE, x.rests(6, 0));
        EDGES.same("a seventh as the other", NONE, x.rests(0, 6));
        EDGES.same("a third of two", NONE, two(3, 3).rests(0, 2));
        EDGES.same("no knights", NONE, new BathOrders().rests(0, 1));
        for (int far : FAR) {
            EDGES.same("one " + far, NONE, x.rests(far, 0));
            EDGES.same("other " + far, NONE, x.rests(0, far));
            EDGES.same("both " + far, NONE, x.rests(far, far));
        }
    }

    private static void rest() {
        EDGES.promise(26);
        EDGES.sentence("The k-th: ten times the first one's and the second one's");
        BathOrders x = two(3, 3);
        int[] due = {0, 1, 10};
        for (int k = 0; k < due.length; k++) {
            EDGES.same("of 3 and 3, " + k, due[k], x.rest(0, 1, k));
        }
        EDGES.same("one of 9 and 9", 0, two(9, 9).rest(0, 1, 0));
        EDGES.same("the other way round", 10, two(9, 0).rest(1, 0, 0));
        EDGES.sentence("-2: there are no so many; NONE likewise, k is below 0.");
        EDGES.same("no fourth of 3 and 3", -2, x.rest(0, 1, 3));
        EDGES.same("no fifth of 3 and 3", -2, x.rest(0, 1, 4));
        EDGES.same("no second of 9 and 9", -2, two(9, 9).rest(0, 1, 1));
        for (int far : FAR) {
            EDGES.same("k " + far, far < 0 ? NONE : -2, x.rest(0, 1, far));
            EDGES.same("one " + far, NONE, x.rest(far, 0, 0));
            EDGES.same("other " + far, NONE, x.rest(0, far, 0));
        }
        EDGES.same("alike", NONE, x.rest(1, 1, 0));
        EDGES.same("alike, and far too many", NONE, x.rest(1, 1, 9));
        EDGES.same("a third of two", NONE, x.rest(0, 2, 0));
        EDGES.same("a third of two as the first", NONE, x.rest(2, 0, 0));
        EDGES.same("a seventh", NONE, sixOfEach().rest(6, 0, 0));
        EDGES.same("no knights", NONE, new BathOrders().rest(0, 1, 0));
    }

    private static void steady() {
        EDGES.promise(27);
        EDGES.sentence("STEADY (n 0 .. 6) in least terms, what 0: the number above, 1: the one below.");
        long[][] rows = {{0, 0, 1, 1}, {0, 6, 1, 1}, {100, 0, 1, 1}, {100, 1, 0, 1}, {100, 6, 0, 1}, {99, 6, 1, 1000000000000L},
            {1, 6, 941480149401L, 1000000000000L}, {50, 6, 1, 64}, {50, 0, 1, 1}, {75, 2, 1, 16}, {98, 6, 1, 15625000000L},
            {40, 1, 3, 5}};
        for (long[] row : rows) {
            BathOrders x = Due.told("flinch " + row[0] + ";");
            EDGES.same("above of " + row[1] + " by " + row[0], row[2], x.steady((int) row[1], 0));
            EDGES.same("below of " + row[1] + " by " + row[0], row[3], x.steady((int) row[1], 1));
        }
        EDGES.same("of a new object", 0, new BathOrders().steady(6, 0));
        EDGES.sentence("NONE: no such ones.");
        BathOrders x = Due.told("flinch 50;");
        EDGES.same("n 7", NONE, x.steady(7, 0));
        EDGES.same("what 2", NONE, x.steady(1, 2));
        for (int far : FAR) {
            EDGES.same("n " + far, NONE, x.steady(far, 0));
            EDGES.same("what " + far, NONE, x.steady(0, far));
        }
    }
}
