/** The edges of ==== 4. and of promises 35 to 38: undoing, images, counts. */
public final class UndoEdgesTest {
    private static final int NONE = BathOrders.NONE;
    private static final String HOUSE = "knight a 99 0;knight b 99 0;tub t 10 50;tub u 10 90;sit a t 0;law cool 1;law rise 1;";
    private static final Edges EDGES = new Edges();

    public static void main(String[] args) {
        undoing();
        undo();
        keep();
        back();
        count();
        EDGES.end(args);
    }

    private static BathOrders house() {
        BathOrders x = Due.told(HOUSE);
        x.go(3);
        return x;
    }

    private static void undoing() {
        EDGES.numbered(4);
        EDGES.sentence("Adding, pouring, getting in and out by call (LITRES, HEAT, where KNIGHTS are and for how long) can be undone, the latest first (20 at most), if no MINUTE went by since.");
        BathOrders x = house();
        String[] states = new String[7];
        states[0] = world(x);
        x.add(0, 60);
        states[1] = world(x);
        x.pour(0, 1, 60);
        states[2] = world(x);
        x.sit(0, 1);
        states[3] = world(x);
        x.sit(1, 0);
        states[4] = world(x);
        x.rise(0);
        states[5] = world(x);
        x.sit(0, 1);
        for (int left = 5; left >= 0; left--) {
            EDGES.same("left", left, x.undo());
            EDGES.alike("as ahead of the latest of " + (left + 1), states[left], world(x));
        }
        EDGES.same("for as long as he was in it", 3, x.knight(0, 5));
        EDGES.same("none more", NONE, x.undo());
        twentyAtMost();
        BathOrders y = house();
        y.add(0, 1);
        EDGES.same("no minute", 3, y.go(0));
        EDGES.same("minutes that are refused", NONE, y.go(201));
        EDGES.same("to be undone yet", 1, y.count(14));
        y.go(1);
        EDGES.same("a minute went by", 0, y.count(14));
        EDGES.same("not to be undone", NONE, y.undo());
        EDGES.sentence("An IMAGE keeps all but FACTS.");
        BathOrders z = State.busy();
        String kept = State.of(z).replaceFirst("counts( -?\\d+){15}", "");
        z.keep();
        z.see(1, 0, 1, false);
        z.go(20);
        z.add(0, 7);
        z.back();
        EDGES.same("facts stay", 4, z.count(12));
        EDGES.alike("all but facts", kept, State.of(z).replaceFirst("counts( -?\\d+){15}", ""));
    }

    /** What undoing brings back: the answers but how much can be undone. */
    private static String world(BathOrders x) {
        return State.of(x).replaceFirst("counts( -?\\d+){15}", "counts");
    }

    private static void twentyAtMost() {
        for (int many = 19; many <= 22; many++) {
            BathOrders x = house();
            for (int i = 0; i < many; i++) {
                x.add(1, 1);
            }
            int most = Math.min(20, many);
            EDGES.same("of " + many, most, x.count(14));
            for (int left = most - 1; left >= 0; left--) {
                EDGES.same("left of " + many, left, x.undo());
                EDGES.same("litres by it", 10 + many - most + left, Due.tub(x, 1, 0));
            }
            EDGES.same("no more of " + many, NONE, x.undo());
            EDGES.same("litres of " + many, 10 + many - most, Due.tub(x, 1, 0));
            EDGES.yes("room again", x.sit(1, 1));
            EDGES.same("one of it", 1, x.count(14));
        }
    }

    private static void undo() {
        EDGES.promise(35);
        EDGES.sentence("The latest is undone: how many are left");
        BathOrders all = house();
        for (int i = 0; i < 20; i++) {
            all.add(0, 1);
        }
        EDGES.same("19 left of 20", 19, all.undo());
        EDGES.same("18 left", 18, all.undo());
        all.add(0, 1);
        EDGES.same("18 left again", 18, all.undo());
        EDGES.sentence("NONE: none.");
        EDGES.refused("of a new object", NONE, BathOrders::new, x -> x.undo());
        EDGES.refused("by minutes alone", NONE, UndoEdgesTest::house, x -> x.undo());
        BathOrders x = house();
        x.add(0, 0);
        x.add(2, 1);
        x.pour(0, 1, 10);
        x.pour(0, 0, 1);
        x.sit(1, 0);
        x.sit(0, 0);
        x.rise(1);
        EDGES.same("what was refused", NONE, x.undo());
        x.add(0, 1);
        x.add(1, 1);
        EDGES.same("one left", 1, x.undo());
        EDGES.same("none left", 0, x.undo());
        EDGES.same("none", NONE, x.undo());
        x.add(0, 1);
        x.keep();
        EDGES.same("behind an image kept", 0, x.undo());
        x.add(0, 1);
        x.back();
        EDGES.same("behind an image", NONE, x.undo());
        x.add(0, 1);
        x.text(0);
        EDGES.same("behind a text", NONE, x.undo());
        BathOrders y = house();
        y.add(0, 1);
        y.text(-1);
        Due.tell(y, "!");
        EDGES.same("behind a text with a fault", 0, y.undo());
    }

    private static void keep() {
        EDGES.promise(36);
        EDGES.sentence("An IMAGE is kept (in place of one ahead): which MINUTE it is.");
        BathOrders x = Due.told(HOUSE);
        EDGES.same("minute 0", 0, x.keep());
        x.go(5);
        EDGES.same("back at 0", 0, x.back());
        x.go(7);
        EDGES.same("minute 7", 7, x.keep());
        x.go(200);
        EDGES.same("back at 7", 7, x.back());
        EDGES.same("twice", 7, x.back());
        EDGES.same("the same once more", 7, x.keep());
        EDGES.same("of a new object", 0, new BathOrders().keep());
        BathOrders late = Due.told(HOUSE);
        for (int i = 0; i < 49; i++) {
            late.go(200);
        }
        EDGES.same("minute 9800", 9800, late.keep());
        EDGES.same("back at 9800", 9800, late.back());
        EDGES.same("no minute behind it", NONE, late.go(1));
        // It is a picture of its own: what is done later doesn't change it.
        BathOrders y = house();
        String kept = world(y);
        y.keep();
        y.sit(1, 1);
        y.add(0, 60);
        y.go(9);
        y.rise(0);
        y.back();
        EDGES.alike("as it was", kept, world(y));
        y.add(1, 9);
        y.go(3);
        y.back();
        EDGES.alike("as it was, once more", kept, world(y));
    }

    private static void back() {
        EDGES.promise(37);
        EDGES.sentence("All (but FACTS) is as in the IMAGE (nothing to undo then): which MINUTE it is");
        BathOrders x = State.busy();
        x.keep();
        int before = x.count(14);
        EDGES.yes("to undo when it was kept", before > 0);
        EDGES.same("back", 5, x.back());
        EDGES.same("nothing to undo", 0, x.count(14));
        EDGES.same("nothing to undo by call", NONE, x.undo());
        // The numbers go on from where they were.
        String hot = "knight k 0 0;tub t 9 99;sit k t 0;sit k t 1;sit k t 2;sit k t 3;sit k t 4;sit k t 5;sit k t 6;flinch 50;seed 5;";
        BathOrders y = Due.told(hot);
        BathOrders twin = Due.told(hot);
        y.go(2);
        twin.go(2);
        y.keep();
        y.go(3);
        EDGES.same("back at 2", 2, y.back());
        for (int i = 0; i < 5; i++) {
            y.go(1);
            twin.go(1);
            EDGES.same("the same numbers", twin.knight(0, 6), y.knight(0, 6));
        }
        // Sent off so far is as in the image, too.
        BathOrders off = Due.told("knight k 99 0;tub t 9 9;sit k t 0;sit k t 1;sit k t 2;");
        off.go(2);
        off.keep();
        off.go(1);
        EDGES.same("sent off", 2, off.count(11));
        off.back();
        EDGES.same("sent off as in the image", 1, off.count(11));
        EDGES.sentence("NONE: there is none.");
        EDGES.refused("of a new object", NONE, BathOrders::new, z -> z.back());
        EDGES.refused("none kept", NONE, UndoEdgesTest::house, z -> z.back());
        BathOrders gone = State.busy();
        gone.text(20);
        EDGES.same("gone with its text", NONE, gone.back());
        BathOrders stays = State.busy();
        stays.text(21);
        EDGES.same("there behind -2", 3, stays.back());
        stays.text(6);
        EDGES.same("there behind a fault", 3, stays.back());
    }

    private static void count() {
        EDGES.promise(38);
        EDGES.sentence("0 KNIGHTS, 1 TUBS, 2 SITTINGS, 3 CANS, 4 PIPES told, 5 KNOTS, 6 the MINUTE, 7 LITRES of all, 8 KNIGHTS in TUBS, 9 STOOD in sum, 10 FLINCHED, 11 SENT OFF so far (by minutes), 12 FACTS, 13 by how many it is KNOWN, 14 what can be undone.");
        StringBuilder most = new StringBuilder();
        for (char name = 'a'; name <= 'f'; name++) {
            most.append("knight ").append(name).append(" 99 1;tub ").append(name).append(" 99 1;");
        }
        most.append("sit a b 0;".repeat(12)).append("can a 1 0;".repeat(10)).append("pipe a b 1;".repeat(8));
        most.append("law cool 1" + "+1".repeat(31)).append(";flinch 100;");
        BathOrders x = Due.told(most.toString());
        int[] first = {6, 6, 12, 10, 8, 63, 0, 594, 0, 0, 0, 0, 0, 0, 0};
        int[] behind = {6, 6, 12, 10, 8, 63, 1, 604, 1, 1, 0, 11, 0, 0, 0};
        for (int what = 0; what < 15; what++) {
            EDGES.same("at first, " + what, first[what], x.count(what));
        }
        x.go(1);
        for (int what = 0; what < 15; what++) {
            EDGES.same("behind one, " + what, behind[what], x.count(what));
        }
        for (int knight = 0; knight < 6; knight++) {
            x.sit(knight, knight);
        }
        EDGES.same("all in tubs", 6, x.count(8));
        EDGES.same("so much to undo", 6, x.count(14));
        x.sit(0, 0);
        x.sit(1, 0);
        EDGES.same("sent off by minutes alone", 11, x.count(11));
        x.go(200);
        EDGES.same("stood in sum", 1 + 6 * 200, x.count(9));
        EDGES.sentence("NONE for another what.");
        for (int what : new int[] {Integer.MIN_VALUE, -256, -2, -1, 15, 16, 256, 65536, Integer.MAX_VALUE}) {
            EDGES.same("what " + what, NONE, x.count(what));
            EDGES.same("what " + what + " of a new object", NONE, new BathOrders().count(what));
        }
    }
}
