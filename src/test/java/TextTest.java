/** Promises 1 to 5: a new object, feed, text, fault, named. */
public final class TextTest {
    private static final Due DUE = new Due();

    public static void main(String[] args) {
        newObject();
        feed();
        text();
        soundTexts();
        strayTokens();
        strayInLaws();
        tooMuch();
        toldAlready();
        notTold();
        knots();
        named();
        DUE.end();
    }

    private static void newObject() {
        BathOrders x = new BathOrders();
        for (int what = 0; what <= 14; what++) {
            DUE.same("count of a new object, " + what, 0, x.count(what));
        }
        DUE.same("fault of a new object", 0, x.fault(0));
        DUE.same("place of a new object", BathOrders.NONE, x.fault(1));
        DUE.same("text of an empty tape", -2, x.text(1));
        DUE.same("first feed", 20, x.feed(0, 0, 0, 0, 0));
        DUE.same("the flinch of a new object", 0, x.steady(1, 0));
    }

    private static void feed() {
        BathOrders x = new BathOrders();
        for (int i = 1; i <= 35; i++) {
            DUE.same("feed " + i, 20 * i, x.feed(0x20202020, 0x0a0a0a0a, 0x20202020, 0x20202020, 0x20202020));
        }
        DUE.same("feed beyond 700", BathOrders.NONE, x.feed(0, 0, 0, 0, 0));
        DUE.same("text beyond 700", -2, x.text(701));
        DUE.same("700 blanks", 0, x.text(700));
        // The highest byte first: 'seed', ' 7;' and a byte above 127 behind it.
        x.feed(0x73656564, 0x20373bff, 0, 0, 0);
        DUE.same("a byte above 127", BathOrders.NONE, x.text(8));
        DUE.same("its fault", 1, x.fault(0));
        DUE.same("its place", 7, x.fault(1));
        x.feed(0x73656564, 0x20373bff, 0, 0, 0);
        DUE.same("the text ahead of it", 1, x.text(7));
    }

    private static void text() {
        BathOrders x = Due.told("knight k 50 1;tub t 9 20;sit k t 0;flinch 0;");
        x.go(2);
        x.keep();
        x.add(0, 5);
        x.see(3, 0, 1, true);
        x.known(1);
        DUE.same("a text with a fault", BathOrders.NONE, Due.tell(x, "knight k;"));
        DUE.same("all stays: the minute", 2, x.count(6));
        DUE.same("all stays: the knights", 1, x.count(0));
        DUE.same("all stays: what is known", 1, x.count(13));
        DUE.same("all stays: facts", 1, x.count(12));
        DUE.same("all stays: undo", 1, x.count(14));
        DUE.same("all stays: the flinch", 1, x.steady(1, 0));
        DUE.same("the tape is empty", 20, x.feed(0x20202020, 0, 0, 0, 0));
        DUE.same("below 0", -2, x.text(-1));
        DUE.same("the least number", -2, x.text(Integer.MIN_VALUE));
        DUE.same("too many", -2, x.text(21));
        DUE.same("fault of the latest that was not -2", 1, x.fault(0));
        DUE.same("the tape stays", 40, x.feed(0, 0, 0, 0, 0));
        DUE.same("blanks", 0, x.text(4));
        DUE.same("no fault", 0, x.fault(0));
        DUE.same("no place", BathOrders.NONE, x.fault(1));
        DUE.same("no other what", BathOrders.NONE, x.fault(2));
        DUE.same("the tape is empty behind it", -2, x.text(1));
        for (int what = 0; what <= 14; what++) {
            DUE.same("count behind an empty text, " + what, 0, x.count(what));
        }
        DUE.same("no image", BathOrders.NONE, x.back());
        DUE.same("nothing to undo", BathOrders.NONE, x.undo());
        DUE.same("the flinch of an empty text", 0, x.steady(1, 0));
        Due.tell(x, "knight k 50 1;");
        DUE.same("all known again", 0, x.see(1, 0, 1, true));
        DUE.same("known by it", 1, x.count(13));
        DUE.same("BORNE by it", 0, x.borne(0));
    }

    private static void sound(int lines, String text) {
        BathOrders x = new BathOrders();
        DUE.same("lines of " + text, lines, Due.tell(x, text));
        DUE.same("fault of " + text, 0, x.fault(0));
        DUE.same("place of " + text, BathOrders.NONE, x.fault(1));
    }

    private static void faulty(int fault, int place, String text) {
        BathOrders x = new BathOrders();
        DUE.same("lines of " + text, BathOrders.NONE, Due.tell(x, text));
        DUE.same("fault of " + text, fault, x.fault(0));
        DUE.same("place of " + text, place, x.fault(1));
    }

    private static void soundTexts() {
        sound(0, "");
        sound(0, " \n ");
        sound(1, "knight k 99 9;");
        sound(1, "knight k 0 0 ;");
        sound(1, "\nknight\nk\n000099\n09;\n");
        sound(1, "knight k1 1;");
        sound(1, "knight abcdef 1 1;");
        sound(2, "knight k 1 1;tub k 1 1;");
        sound(2, "tub t 99 99;tub u 1 0;");
        sound(3, "knight k 1 1;tub t 1 1;sit k t 99;");
        sound(2, "tub t 1 1;can t 9 99;");
        sound(4, "tub t 1 1;tub u 1 1;pipe t u 9;pipe u t 1;");
        sound(2, "flinch 0;seed 99999;");
        sound(1, "flinch 00000000000000000000100;");
        sound(3, "law ease 1;law rise 0;law cool 9999;");
        sound(1, "law cool((((((((1))))))));");
        sound(1, "law cool (1)+(1)+(1)+(1)+(1)+(1)+(1)+(1)+(1);");
        sound(1, "law cool not not 1<2 and(not 3)or heat<>bears;");
        sound(1, "law cool 1<(2<3);");
        sound(2, "law cool 1<2;law ease 1<2;");
        sound(1, "seed 0;");
        sound(1, "law cool ((((((((1+1))))))));");
        sound(1, "law cool 1<2 or 2>=1 and 3>2;");
        sound(1, "law cool heat/litres*stood-rank+long=minute;");
    }

    private static void strayTokens() {
        faulty(1, 0, ";");
        faulty(1, 0, "k");
        faulty(1, 0, "cool");
        faulty(1, 0, "heat");
        faulty(1, 0, "7");
        faulty(1, 1, " K");
        faulty(1, 0, "knights k 0 0;");
        faulty(1, 6, "knight");
        faulty(1, 8, "knight k");
        faulty(1, 12, "knight k 1 1");
        faulty(1, 14, "knight k 1 1 \n");
        faulty(1, 7, "knight tub 1 1;");
        faulty(1, 7, "knight minute 1 1;");
        faulty(1, 7, "knight 5 1 1;");
        faulty(1, 7, "knight abcdefg 1 1;");
        faulty(1, 9, "knight k a 1;");
        faulty(1, 10, "knight k 1;");
        faulty(1, 13, "knight k 1 1;;");
        faulty(1, 13, "knight k 1 1 1;");
        faulty(1, 13, "knight k 1 1;!");
        faulty(1, 9, "knight k -1 1;");
        faulty(1, 7, "flinch ;");
        faulty(1, 5, "seed k;");
        faulty(1, 4, "sit law t 0;");
        faulty(1, 9, "tub t 1 1.;");
        faulty(1, 10, "tub t 1 1;\0");
        faulty(1, 10, "tub t 1 1;\t");
        faulty(1, 10, "tub t 1 1;\r\n");
    }

    private static void strayInLaws() {
        faulty(1, 3, "law");
        faulty(1, 4, "law k 1;");
        faulty(1, 4, "law heat 1;");
        faulty(1, 8, "law cool");
        faulty(1, 9, "law cool ;");
        faulty(1, 9, "law cool k;");
        faulty(1, 9, "law cool knight;");
        faulty(1, 9, "law cool -1;");
        faulty(1, 10, "law cool ();");
        faulty(1, 11, "law cool (1;");
        faulty(1, 10, "law cool 1);");
        faulty(1, 11, "law cool 1 2;");
        faulty(1, 12, "law cool (1)(2);");
        faulty(1, 12, "law cool 1<2<3;");
        faulty(1, 16, "law cool not 1<2=3;");
        faulty(1, 15, "law cool (1<2)<<3;");
        faulty(1, 11, "law cool 1+not 2;");
        faulty(1, 11, "law cool 1<not 2;");
        faulty(1, 11, "law cool 1 not 2;");
        faulty(1, 13, "law cool 1 = = 1;");
        faulty(1, 12, "law cool 1< =2;");
        faulty(1, 11, "law cool 1=<2;");
        faulty(1, 12, "law cool 1<>=2;");
        faulty(1, 11, "law cool 1><2;");
        faulty(1, 11, "law cool 1+;");
        faulty(1, 12, "law cool 1+2");
        faulty(1, 15, "law cool 1 and or 2;");
        faulty(1, 10, "law cool 1%2;");
    }

    private static void tooMuch() {
        faulty(2, 9, "knight k 100 10;");
        faulty(2, 12, "knight k 99 10;");
        faulty(2, 6, "tub t 0 0;");
        faulty(2, 8, "tub t 1 100;");
        faulty(2, 7, "flinch 101;");
        faulty(2, 7, "flinch 99999999999999999999999999;");
        faulty(2, 7, "flinch 4294967296;");
        faulty(2, 5, "seed 100000;");
        faulty(2, 9, "law cool 10000;");
        faulty(2, 17, "law cool (((((((((1");
        faulty(2, 78, "knight a 0 0;knight b 0 0;knight c 0 0;knight d 0 0;knight e 0 0;knight f 0 0;knight a");
        faulty(2, 60, "tub a 1 0;tub b 1 0;tub c 1 0;tub d 1 0;tub e 1 0;tub f 1 0;tub");
        String two = "knight k 0 0;tub t 1 0;tub u 1 0;";
        faulty(2, 33 + 120, two + "sit k t 0;".repeat(12) + "sit");
        faulty(2, 33 + 100, two + "can t 1 0;".repeat(10) + "can");
        faulty(2, 33 + 88, two + "pipe t u 1;".repeat(8) + "pipe");
        faulty(2, 33 + 8, two + "sit k t 100;");
        faulty(2, 33 + 6, two + "can t 0 0;");
        faulty(2, 33 + 6, two + "can t 10 0;");
        faulty(2, 33 + 8, two + "can t 1 100;");
        faulty(2, 33 + 9, two + "pipe t u 0;");
        faulty(2, 33 + 9, two + "pipe t u 10;");
        sound(15, two + "sit k t 0;".repeat(12));
        sound(13, two + "can t 1 0;".repeat(10));
        sound(11, two + "pipe t u 1;".repeat(8));
    }

    private static void toldAlready() {
        faulty(3, 20, "knight k 0 0;knight k 100 0;");
        faulty(3, 14, "tub t 1 0;tub t 0 0;");
        faulty(3, 9, "flinch 1;flinch");
        faulty(3, 7, "seed 1;seed 100000;");
        faulty(3, 15, "law cool 1;law cool");
        faulty(3, 26, "law cool 1;law ease 1;law ease !;");
    }

    private static void notTold() {
        faulty(4, 4, "sit k t 0;knight k 0 0;tub t 1 0;");
        faulty(4, 14, "tub t 1 0;sit t t 0;");
        faulty(4, 19, "knight k 0 0;sit k k 0;");
        faulty(4, 4, "can t 0 0;");
        faulty(4, 5, "pipe t t 1;");
        faulty(4, 17, "tub t 1 0;pipe t u 1;");
        faulty(5, 17, "tub t 1 0;pipe t t 0;");
    }

    private static void knots() {
        String most = "law cool not 1" + "+1".repeat(31);
        sound(1, most + ";");
        BathOrders x = Due.told(most + ";");
        DUE.same("64 knots", 64, x.count(5));
        faulty(2, most.length(), most + "+1;");
        faulty(2, most.length() + 1, most + " and");
        // What can't stand there is less than what is too much.
        faulty(1, most.length() + 1, most + " 1;");
        faulty(1, most.length(), most + ");");
        faulty(2, 9 + 64, "law cool " + "1+".repeat(32) + "1;");
        faulty(1, 9 + 64, "law cool " + "1+".repeat(32) + ")");
        faulty(2, 9 + 64, "law cool " + "1+".repeat(32) + "heat");
        // The knots of all laws count together.
        String first = "law ease " + "1+".repeat(31) + "1;";
        sound(2, first + "law rise 1;");
        faulty(2, first.length() + 10, first + "law rise 1+1;");
        DUE.same("knots of two laws", 64, Due.told(first + "law rise 1;").count(5));
        // As many signs as may be wait at once, brackets among them.
        String waiting = "law cool " + "(not not not ".repeat(8) + "not ".repeat(39);
        sound(1, waiting + "1" + ")".repeat(8) + ";");
        faulty(2, waiting.length() + 4, waiting + "not 1" + ")".repeat(8) + ";");
        faulty(1, waiting.length() + 8, waiting + "1" + ")".repeat(7) + ";");
        DUE.same("brackets are none", 3, Due.told("law cool ((1)+(2));").count(5));
    }

    private static void named() {
        BathOrders x = Due.told("knight a 0 0;knight zzzzzz 0 0;tub ab 1 0;tub a 1 0;");
        int a = 1 << 25;
        int z = 0;
        for (int i = 0; i < 6; i++) {
            z = z << 5 | 26;
        }
        DUE.same("knight a", 0, x.named(0, a));
        DUE.same("knight zzzzzz", 1, x.named(0, z));
        DUE.same("tub ab", 0, x.named(1, a | 2 << 20));
        DUE.same("tub a", 1, x.named(1, a));
        DUE.same("knight ab", BathOrders.NONE, x.named(0, a | 2 << 20));
        DUE.same("no letters", BathOrders.NONE, x.named(0, 0));
        DUE.same("a at the lowest place", BathOrders.NONE, x.named(0, 1));
        DUE.same("a bit above", BathOrders.NONE, x.named(0, a | 1 << 30));
        DUE.same("the sign bit", BathOrders.NONE, x.named(0, a | 1 << 31));
        DUE.same("no such what", BathOrders.NONE, x.named(2, a));
        DUE.same("what below 0", BathOrders.NONE, x.named(-1, a));
    }
}
