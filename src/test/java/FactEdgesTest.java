/** The edges of the rest of ==== 3. and of promises 28 to 34: facts, what to ask, chance, tried otherwise. */
public final class FactEdgesTest {
    private static final int NONE = BathOrders.NONE;
    private static final int[] FAR = {Integer.MIN_VALUE, Integer.MIN_VALUE + 1, -256, -2, -1, 256, 65536,
        Integer.MAX_VALUE};
    /** He stands from minute 0 on if he bears 50 at least; bits 5 .. 9. */
    private static final String STANDS = "knight k 20 0;tub t 10 50;sit k t 0;law cool 0;";
    private static final int ALL = 1023;
    private static final int FROM_50 = 992;
    private static final int BELOW_50 = 31;
    private static final Edges EDGES = new Edges();

    public static void main(String[] args) {
        facts();
        struck();
        borneBits();
        asked();
        see();
        strike();
        known();
        borne();
        ask();
        chance();
        triedOtherwise();
        tried();
        EDGES.end(args);
    }

    private static BathOrders sixKnights() {
        return Due.told("knight a 30 5;knight b 30 5;knight c 30 5;knight d 30 5;knight e 30 5;knight f 30 5;");
    }

    private static BathOrders fullOfFacts() {
        BathOrders x = State.busy();
        for (int i = x.count(12); i < 24; i++) {
            x.see(60, 0, 99, false);
        }
        return x;
    }

    private static void facts() {
        EDGES.numbered(3);
        EDGES.sentence("FACTS (see), at most 24, numbered from 0 on");
        BathOrders x = Due.told(STANDS);
        for (int i = 0; i < 24; i++) {
            EDGES.same("number", i, i % 2 == 0 ? x.see(1, 0, 0, true) : x.strike(i - 1));
            EDGES.same("so many", i + 1, x.count(12));
        }
        EDGES.same("a 25th", NONE, x.see(1, 0, 0, true));
        EDGES.same("a 25th that strikes", NONE, x.strike(0));
        EDGES.same("24 at most", 24, x.count(12));
        EDGES.sentence("behind so many MINUTES 1 .. 60 (as it goes from the TEXT on, nothing done by call) a KNIGHT had STOOD so many 0 .. 99 MINUTES at least, or fewer.");
        for (int minutes : new int[] {1, 2, 59, 60}) {
            EDGES.same("as many at least", FROM_50, borneBy(minutes, minutes, true));
            EDGES.same("one more at least", 0, borneBy(minutes, minutes + 1, true));
            EDGES.same("fewer than so many", BELOW_50, borneBy(minutes, minutes, false));
            EDGES.same("fewer than one more", ALL, borneBy(minutes, minutes + 1, false));
            EDGES.same("0 at least", ALL, borneBy(minutes, 0, true));
            EDGES.same("fewer than 0", 0, borneBy(minutes, 0, false));
            EDGES.same("99 at least", 0, borneBy(minutes, 99, true));
            EDGES.same("fewer than 99", ALL, borneBy(minutes, 99, false));
        }
        BathOrders called = Due.told(STANDS);
        called.rise(0);
        called.add(0, 60);
        called.go(30);
        called.rise(0);
        called.add(0, 60);
        called.keep();
        called.see(60, 0, 60, true);
        EDGES.same("nothing done by call", FROM_50, called.borne(0));
        for (int flinch : new int[] {0, 49, 50, 100}) {
            BathOrders y = Due.told(STANDS + "flinch " + flinch + ";");
            y.see(60, 0, 60, true);
            EDGES.same("as it goes by " + flinch, flinch < 50 ? ALL : FROM_50, y.borne(0));
        }
    }

    private static int borneBy(int minutes, int stood, boolean atLeast) {
        BathOrders x = Due.told(STANDS);
        x.see(minutes, 0, stood, atLeast);
        return x.borne(0);
    }

    private static void struck() {
        EDGES.sentence("One may strike one ahead of it (STRUCK).");
        BathOrders x = Due.told(STANDS);
        EDGES.same("none ahead", NONE, x.strike(0));
        x.see(1, 0, 1, true);
        EDGES.same("itself", NONE, x.strike(1));
        EDGES.same("the one ahead", 1, x.strike(0));
        EDGES.same("struck", ALL, x.borne(0));
        EDGES.sentence("KNOWN by n (all at first)");
        BathOrders all = Due.told(STANDS);
        all.see(1, 0, 1, true);
        EDGES.same("known at first", FROM_50, all.borne(0));
        EDGES.same("by all", 1, all.count(13));
        EDGES.sentence("the first n that aren't STRUCK by one of these (what strikes may be STRUCK: then it doesn't count; asked from the last one on)");
        // Each strikes the one ahead of it: the first one counts by odd n.
        BathOrders chain = Due.told(STANDS);
        chain.see(1, 0, 1, true);
        for (int i = 1; i < 24; i++) {
            EDGES.same("strikes", i, chain.strike(i - 1));
            EDGES.same("a chain of " + (i + 1), i % 2 == 0 ? FROM_50 : ALL, chain.borne(0));
        }
        for (int n = 0; n <= 24; n++) {
            EDGES.yes("known by " + n, chain.known(n));
            EDGES.same("a chain of the first " + n, n % 2 == 1 ? FROM_50 : ALL, chain.borne(0));
        }
        // Struck twice: only if nothing that strikes is left it counts again.
        BathOrders twice = Due.told(STANDS);
        twice.see(1, 0, 1, true);
        twice.strike(0);
        twice.strike(0);
        EDGES.same("struck twice", ALL, twice.borne(0));
        twice.strike(1);
        EDGES.same("struck once yet", ALL, twice.borne(0));
        twice.strike(2);
        EDGES.same("struck no more", FROM_50, twice.borne(0));
        // What is behind the first n neither counts nor strikes.
        twice.known(4);
        EDGES.same("by the first 4", ALL, twice.borne(0));
        twice.known(0);
        EDGES.same("by none", ALL, twice.borne(0));
        twice.known(1);
        EDGES.same("by the first", FROM_50, twice.borne(0));
    }

    private static void borneBits() {
        EDGES.sentence("0, 10 .. 90 (bits 0 .. 9) in place of BEARS told, by which all KNOWN ones are so.");
        int[][] rows = {{0, 1023}, {1, 1022}, {9, 1022}, {10, 1022}, {11, 1020}, {80, 768}, {81, 512}, {90, 512},
            {91, 0}, {99, 0}};
        for (int[] row : rows) {
            for (int bears : new int[] {0, 99}) {
                BathOrders x = Due.told("knight k " + bears + " 0;tub t 10 " + row[0] + ";sit k t 0;law cool 0;");
                EDGES.same("none known", ALL, x.borne(0));
                x.see(1, 0, 1, true);
                EDGES.same("of " + row[0] + " degrees", row[1], x.borne(0));
                x.see(1, 0, 1, false);
                EDGES.same("both can't be", 0, x.borne(0));
            }
        }
        // All of them: of another knight, too, who has what is told of him.
        BathOrders two = Due.told("knight k 20 0;knight l 30 0;tub t 10 50;tub u 10 30;sit k t 0;sit l u 0;law cool 0;");
        two.see(1, 1, 1, true);
        EDGES.same("so of the other one", ALL, two.borne(0));
        two.see(1, 1, 1, false);
        EDGES.same("not so of the other one", 0, two.borne(0));
    }

    private static void asked() {
        EDGES.sentence("behind how many MINUTES 1 .. 60 (as above) one should ask whether he is in a TUB, so that as few of BORNE as may be are left at worst, the first of several (if there are none: 1, none left).");
        // He gets in by minute m alone; from 50 degrees on he is in it behind m + 1.
        for (int minute : new int[] {0, 1, 58, 59, 60, 99}) {
            BathOrders x = Due.told("knight k 20 0;tub t 10 50;sit k t " + minute + ";law cool 0;");
            EDGES.same("in by " + minute, minute < 60 ? minute + 1 : 1, x.ask(0, 0));
            EDGES.same("left by " + minute, minute < 60 ? 5 : 10, x.ask(0, 1));
        }
        BathOrders x = Due.told("knight k 20 0;tub t 10 50;sit k t 0;law cool 0;");
        x.see(1, 0, 1, true);
        EDGES.same("nothing told apart: the first", 1, x.ask(0, 0));
        EDGES.same("all are left", 5, x.ask(0, 1));
        x.see(1, 0, 1, false);
        EDGES.same("none", 1, x.ask(0, 0));
        EDGES.same("none left", 0, x.ask(0, 1));
        // In another tub than the first one, and all of them in it.
        BathOrders second = Due.told("knight k 20 0;tub t 10 0;tub u 10 50;sit k u 6;law cool 0;");
        EDGES.same("in the second tub", 7, second.ask(0, 0));
        EDGES.same("left by the second tub", 5, second.ask(0, 1));
        BathOrders every = Due.told("knight k 20 0;tub t 10 0;sit k t 0;law cool 0;");
        EDGES.same("all are in it", 1, every.ask(0, 0));
        EDGES.same("all are left by it", 10, every.ask(0, 1));
        BathOrders one = Due.told("knight k 20 0;tub t 10 90;sit k t 0;law cool 0;");
        one.see(1, 0, 1, true);
        EDGES.same("one", 1, one.ask(0, 0));
        EDGES.same("one left", 1, one.ask(0, 1));
    }

    private static void see() {
        EDGES.promise(28);
        EDGES.sentence("A FACT: its number");
        BathOrders x = sixKnights();
        EDGES.same("the least of all", 0, x.see(1, 0, 0, true));
        EDGES.same("the most of all", 1, x.see(60, 5, 99, false));
        EDGES.sentence("NONE: no such ones, or there are 24.");
        EDGES.refused("0 minutes", NONE, State::busy, y -> y.see(0, 0, 1, true));
        EDGES.refused("61 minutes", NONE, State::busy, y -> y.see(61, 0, 1, true));
        EDGES.refused("stood 100", NONE, State::busy, y -> y.see(1, 0, 100, true));
        EDGES.refused("a third of two", NONE, State::busy, y -> y.see(1, 2, 1, true));
        EDGES.refused("a seventh", NONE, FactEdgesTest::sixKnights, y -> y.see(1, 6, 1, true));
        EDGES.refused("one of none", NONE, BathOrders::new, y -> y.see(1, 0, 1, true));
        for (int far : FAR) {
            EDGES.refused("minutes " + far, NONE, State::busy, y -> y.see(far, 0, 1, true));
            EDGES.refused("knight " + far, NONE, State::busy, y -> y.see(1, far, 1, true));
            EDGES.refused("stood " + far, NONE, State::busy, y -> y.see(1, 0, far, false));
        }
        EDGES.refused("there are 24", NONE, FactEdgesTest::fullOfFacts, y -> y.see(1, 0, 1, true));
        EDGES.refused("there are 24, and no such ones", NONE, FactEdgesTest::fullOfFacts, y -> y.see(0, 0, 1, true));
    }

    private static void strike() {
        EDGES.promise(29);
        EDGES.sentence("One that strikes a FACT: its number");
        BathOrders x = State.busy();
        EDGES.same("the first", 3, x.strike(0));
        EDGES.same("the last", 4, x.strike(3));
        EDGES.sentence("NONE: no such one, or there are 24.");
        EDGES.refused("as many as there are", NONE, State::busy, y -> y.strike(3));
        EDGES.refused("none", NONE, BathOrders::new, y -> y.strike(0));
        for (int far : FAR) {
            EDGES.refused("fact " + far, NONE, State::busy, y -> y.strike(far));
        }
        EDGES.refused("there are 24", NONE, FactEdgesTest::fullOfFacts, y -> y.strike(0));
        EDGES.refused("there are 24, the last", NONE, FactEdgesTest::fullOfFacts, y -> y.strike(23));
        EDGES.refused("there are 24, a 25th", NONE, FactEdgesTest::fullOfFacts, y -> y.strike(24));
    }

    private static void known() {
        EDGES.promise(30);
        EDGES.sentence("KNOWN by n from now on (-1: by all, also those to come): true");
        BathOrders x = Due.told(STANDS);
        EDGES.yes("by 0 of none", x.known(0));
        x.see(1, 0, 1, true);
        EDGES.same("not the one to come", ALL, x.borne(0));
        EDGES.yes("by 1", x.known(1));
        EDGES.same("by 1", FROM_50, x.borne(0));
        x.see(1, 0, 1, false);
        EDGES.same("not the second to come", FROM_50, x.borne(0));
        EDGES.same("by how many", 1, x.count(13));
        EDGES.yes("by 2", x.known(2));
        EDGES.same("by 2", 0, x.borne(0));
        EDGES.yes("by 0", x.known(0));
        EDGES.yes("by all", x.known(-1));
        EDGES.same("by all", 0, x.borne(0));
        x.strike(0);
        EDGES.same("also what comes", BELOW_50, x.borne(0));
        EDGES.same("by how many there are", 3, x.count(13));
        BathOrders none = new BathOrders();
        EDGES.yes("by all of none", none.known(-1));
        BathOrders most = fullOfFacts();
        EDGES.yes("by 24", most.known(24));
        EDGES.same("by so many", 24, most.count(13));
        EDGES.sentence("false: no such n.");
        EDGES.refused("one more than there are", 0, State::busy, y -> y.known(4) ? 1 : 0);
        EDGES.refused("25", 0, FactEdgesTest::fullOfFacts, y -> y.known(25) ? 1 : 0);
        EDGES.refused("1 of none", 0, BathOrders::new, y -> y.known(1) ? 1 : 0);
        for (int far : FAR) {
            if (far != -1) {
                EDGES.refused("n " + far, 0, State::busy, y -> y.known(far) ? 1 : 0);
            }
        }
        EDGES.same("as it was", 2, State.busy().count(13));
    }

    private static void borne() {
        EDGES.promise(31);
        EDGES.sentence("BORNE (bits)");
        BathOrders x = sixKnights();
        EDGES.same("the first", ALL, x.borne(0));
        EDGES.same("the last", ALL, x.borne(5));
        EDGES.sentence("NONE: no such KNIGHT.");
        EDGES.same("a seventh", NONE, x.borne(6));
        EDGES.same("a third of two", NONE, State.busy().borne(2));
        EDGES.same("one of none", NONE, new BathOrders().borne(0));
        for (int far : FAR) {
            EDGES.same("knight " + far, NONE, x.borne(far));
        }
    }

    private static void ask() {
        EDGES.promise(32);
        EDGES.sentence("ASK, what 0: behind how many MINUTES, 1: how many are left at worst.");
        BathOrders x = sixKnights();
        EDGES.same("the last", 1, x.ask(5, 0));
        EDGES.same("all of the last", 10, x.ask(5, 1));
        EDGES.sentence("NONE: no such ones.");
        EDGES.same("a seventh", NONE, x.ask(6, 0));
        EDGES.same("what 2", NONE, x.ask(0, 2));
        EDGES.same("a third of two", NONE, State.busy().ask(2, 1));
        EDGES.same("one of none", NONE, new BathOrders().ask(0, 0));
        for (int far : FAR) {
            EDGES.same("knight " + far, NONE, x.ask(far, 0));
            EDGES.same("what " + far, NONE, x.ask(0, far));
        }
    }

    /** Who sits in what he can't bear: in how many of ten times he is in it yet. */
    private static int chanceDue(int flinch, int seed, int minutes) {
        Numbers numbers = new Numbers(seed);
        int in = 0;
        for (int time = 0; time < 10; time++) {
            boolean inTub = true;
            for (int minute = 0; minute < minutes && inTub; minute++) {
                inTub = numbers.next() % 100 >= flinch;
            }
            in += inTub ? 1 : 0;
        }
        return in;
    }

    private static void chance() {
        EDGES.promise(33);
        EDGES.sentence("In how many of ten times drawn (numbers from a seed 0 .. 2147483647 on, one behind another; n 1 .. 99 MINUTES from now) a KNIGHT is in a TUB then");
        for (int flinch : new int[] {1, 5, 50, 99}) {
            BathOrders x = Due.told("knight k 0 0;knight l 0 0;tub t 9 90;law cool 0;seed 9;flinch " + flinch + ";");
            x.sit(0, 0);
            for (int seed : new int[] {0, 1, 65535, 65536, 2147483646, Integer.MAX_VALUE}) {
                for (int minutes : new int[] {1, 2, 5, 98, 99}) {
                    EDGES.same("by " + flinch + ", seed " + seed + ", " + minutes, chanceDue(flinch, seed, minutes),
                        x.chance(seed, minutes, 0));
                }
                EDGES.same("in none", 0, x.chance(seed, 99, 1));
            }
        }
        for (int flinch : new int[] {0, 100}) {
            BathOrders x = Due.told("knight k 0 0;tub t 9 90;law cool 0;flinch " + flinch + ";");
            x.sit(0, 0);
            EDGES.same("no numbers by " + flinch, flinch == 0 ? 10 : 0, x.chance(1, 99, 0));
        }
        BathOrders late = Due.told("knight k 99 0;tub t 9 90;sit k t 98;");
        EDGES.same("98 minutes", 0, late.chance(0, 98, 0));
        EDGES.same("99 minutes", 10, late.chance(0, 99, 0));
        BathOrders sixth = Due.told("knight k 99 0;tub a 9 9;tub b 9 9;tub c 9 9;tub d 9 9;tub e 9 9;tub f 9 9;sit k f 0;");
        EDGES.same("in the sixth tub", 10, sixth.chance(0, 1, 0));
        EDGES.sentence("NONE: no such ones.");
        for (int far : FAR) {
            EDGES.refused("n " + far, NONE, State::busy, y -> y.chance(1, far, 0));
            EDGES.refused("knight " + far, NONE, State::busy, y -> y.chance(1, 1, far));
            if (far < 0) {
                EDGES.refused("seed " + far, NONE, State::busy, y -> y.chance(far, 1, 0));
            }
        }
        EDGES.refused("0 minutes", NONE, State::busy, y -> y.chance(1, 0, 0));
        EDGES.refused("100 minutes", NONE, State::busy, y -> y.chance(1, 100, 0));
        EDGES.refused("a third of two", NONE, State::busy, y -> y.chance(1, 1, 2));
        EDGES.same("a seventh", NONE, sixKnights().chance(1, 1, 6));
        EDGES.same("one of none", NONE, new BathOrders().chance(1, 1, 0));
    }

    private static void triedOtherwise() {
        EDGES.numbered(3);
        EDGES.sentence("0 who isn't AT EASE FLINCHES, 1 nobody does (no numbers)");
        for (int flinch : new int[] {0, 49, 50, 100}) {
            BathOrders x = Due.told("knight k 0 0;tub t 9 90;sit k t 0;law cool 0;flinch " + flinch + ";");
            EDGES.same("all flinch by " + flinch, 0, x.tried(0, 0, 200));
            EDGES.same("nobody does by " + flinch, 200, x.tried(1, 0, 200));
            EDGES.same("as it goes by " + flinch, flinch < 50 ? 200 : 0, x.tried(3, 0, 200));
            EDGES.same("as it goes without cooling by " + flinch, flinch < 50 ? 200 : 0, x.tried(4, 0, 200));
        }
        EDGES.sentence("2 no SITTINGS of KNIGHT i (he isn't SENT OFF)");
        BathOrders x = Due.told("knight a 99 0;knight b 99 0;tub t 9 9;sit a t 0;sit b t 0;sit b t 5;");
        EDGES.same("both", 10, x.tried(0, 0, 10));
        EDGES.same("without the first", 10, x.tried(2, 0, 10));
        EDGES.same("without the second", 10, x.tried(2, 1, 10));
        EDGES.same("of one alone", 0, Due.told("knight a 99 0;tub t 9 9;sit a t 0;").tried(2, 0, 10));
        x.sit(0, 0);
        EDGES.same("he is in it by call", 10, x.tried(2, 0, 10));
        x.go(1);
        EDGES.same("sent off", 2, x.count(11));
        x.tried(2, 1, 200);
        EDGES.same("nobody is sent off by it", 2, x.count(11));
        EDGES.sentence("3 no CANS told");
        BathOrders cans = Due.told("knight k 50 0;tub t 9 50;sit k t 0;can t 9 3;law cool 0;");
        EDGES.same("with them", 3, cans.tried(0, 0, 10));
        EDGES.same("without", 10, cans.tried(3, 0, 10));
        cans.add(0, 1);
        EDGES.same("one by call is there", 0, cans.tried(3, 0, 10));
        EDGES.sentence("4 nothing cools (E of cool isn't asked)");
        for (String law : new String[] {"", "law cool 20;", "law cool 1/0;"}) {
            BathOrders hot = Due.told("knight k 50 0;tub t 9 51;sit k t 0;sit k t 5;" + law);
            EDGES.same("cools by '" + law + "'", law.equals("law cool 20;") ? 10 : 5, hot.tried(0, 0, 10));
            EDGES.same("nothing cools by '" + law + "'", 0, hot.tried(4, 0, 10));
        }
    }

    private static void tried() {
        EDGES.promise(34);
        EDGES.sentence("TRIED (n 0 .. 200)");
        BathOrders x = Due.told("knight a 99 0;knight b 99 0;tub t 9 9;tub u 9 9;sit a t 0;sit b u 0;");
        for (int what = 0; what <= 4; what++) {
            EDGES.same("0 minutes of what " + what, 0, x.tried(what, 0, 0));
            EDGES.same("200 minutes of what " + what, what == 2 ? 200 : 400, x.tried(what, 0, 200));
        }
        x.go(7);
        EDGES.same("what was stood by now", 14, x.tried(2, 1, 0));
        EDGES.sentence("NONE: no such ones (i 0 of all but 2).");
        for (int far : FAR) {
            EDGES.refused("what " + far, NONE, State::busy, y -> y.tried(far, 0, 1));
            EDGES.refused("n " + far, NONE, State::busy, y -> y.tried(0, 0, far));
            for (int what = 0; what <= 4; what++) {
                EDGES.same("i " + far + " of what " + what, NONE, x.tried(what, far, 1));
            }
        }
        EDGES.refused("what 5", NONE, State::busy, y -> y.tried(5, 0, 1));
        EDGES.refused("201 minutes", NONE, State::busy, y -> y.tried(1, 0, 201));
        EDGES.refused("201 minutes without sittings", NONE, State::busy, y -> y.tried(2, 0, 201));
        for (int what = 0; what <= 4; what++) {
            EDGES.same("i 1 of what " + what, what == 2 ? 16 : NONE, x.tried(what, 1, 1));
            EDGES.same("i 2 of what " + what, NONE, x.tried(what, 2, 1));
        }
        EDGES.same("without the sittings of a seventh", NONE, sixKnights().tried(2, 6, 1));
        EDGES.same("without the sittings of the sixth", 0, sixKnights().tried(2, 5, 1));
        EDGES.same("nobody's sittings", NONE, new BathOrders().tried(2, 0, 1));
        EDGES.same("nobody", 0, new BathOrders().tried(4, 0, 1));
    }
}
