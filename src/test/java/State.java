/** What can be asked of an object, as one text, to see whether two are alike. */
final class State {
    /** Of an object that changes of all calls; the tape, the image and what can be undone with it. */
    private static final String BUSY = "knight a 40 5;knight b 80 2;tub t 10 50;tub u 20 70;sit a t 0;sit b u 1;"
        + "sit a u 3;sit a t 6;sit b t 7;sit a t 8;sit b u 9;can u 5 7;pipe t u 1;flinch 50;seed 7;law rise 2-rank/4;";

    private State() {
    }

    /** All of now that no question changes. */
    static String of(BathOrders x) {
        StringBuilder text = new StringBuilder("counts");
        for (int what = 0; what <= 14; what++) {
            text.append(' ').append(x.count(what));
        }
        text.append(", fault ").append(x.fault(0)).append(' ').append(x.fault(1));
        for (int tub = 0; tub < x.count(1); tub++) {
            text.append(", tub");
            for (int what = 0; what <= 2; what++) {
                text.append(' ').append(Due.tub(x, tub, what));
            }
            text.append(" cool ").append(x.law(0, 0, tub));
        }
        for (int knight = 0; knight < x.count(0); knight++) {
            text.append(", knight");
            for (int what = 0; what <= 6; what++) {
                text.append(' ').append(x.knight(knight, what));
            }
            text.append(" borne ").append(x.borne(knight));
            text.append(" chance ").append(x.chance(5, 9, knight));
        }
        return text.append(", steady ").append(x.steady(1, 0)).toString();
    }

    /** What comes of it: by undoing, by minutes and their numbers, by the tape and by the image. */
    static String later(BathOrders x) {
        StringBuilder text = new StringBuilder("undone");
        for (int i = 0; i <= 20; i++) {
            text.append(' ').append(x.undo());
        }
        text.append(of(x)).append("\ngo ").append(x.go(7)).append(of(x));
        text.append("\nfed ").append(x.feed(0, 0, 0, 0, 0));
        text.append("\nback ").append(x.back()).append(of(x));
        return text.append("\ngo ").append(x.go(5)).append(of(x)).toString();
    }

    /** In the midst of all: minutes went by, an image, facts, doings to undo, twenty bytes fed. */
    static BathOrders busy() {
        BathOrders x = Due.told(BUSY);
        x.go(3);
        x.keep();
        x.go(2);
        x.see(3, 0, 1, true);
        x.see(4, 1, 2, false);
        x.strike(0);
        x.known(2);
        x.add(0, 5);
        x.pour(1, 0, 3);
        if (!x.sit(0, 0)) {
            x.rise(0);
        }
        x.feed(0x666c696e, 0x63682031, 0x3b202020, 0x20202020, 0x20202020);
        return x;
    }
}
