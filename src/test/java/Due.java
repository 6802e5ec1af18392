import java.util.NoSuchElementException;

/** What the tests written by hand share: telling a text, and looking at an answer. */
final class Due {
    static final int NO_TUB = -1001;
    static final int NO_WHAT = -1002;

    private int wrong;

    void same(String what, long want, long got) {
        if (got != want) {
            wrong++;
            System.out.println(what + " answered " + got + ", due is " + want);
        }
    }

    void yes(String what, boolean got) {
        same(what, 1, got ? 1 : 0);
    }

    void no(String what, boolean got) {
        same(what, 0, got ? 1 : 0);
    }

    /** Feeds a text, behind which blanks fill up the last twenty bytes, and reads it. */
    static int tell(BathOrders x, String text) {
        for (int at = 0; at < text.length(); at += 20) {
            x.feed(four(text, at), four(text, at + 4), four(text, at + 8), four(text, at + 12), four(text, at + 16));
        }
        return x.text(text.length());
    }

    static int four(String text, int at) {
        int four = 0;
        for (int i = at; i < at + 4; i++) {
            four = four << 8 | (i < text.length() ? text.charAt(i) : ' ');
        }
        return four;
    }

    static BathOrders told(String text) {
        BathOrders x = new BathOrders();
        if (tell(x, text) < 0) {
            throw new IllegalArgumentException("fault " + x.fault(0) + " at " + x.fault(1) + " of " + text);
        }
        return x;
    }

    static int tub(BathOrders x, int tub, int what) {
        try {
            return x.tub(tub, what);
        } catch (IndexOutOfBoundsException e) {
            return e.getClass() == IndexOutOfBoundsException.class ? NO_TUB : -9999;
        } catch (NoSuchElementException e) {
            return NO_WHAT;
        }
    }

    void end() {
        System.out.println(wrong == 0 ? "all answers are as due" : wrong + " answers are not as due");
        if (wrong != 0) {
            System.exit(1);
        }
    }
}
