/** The edges of the terms of a text and of promises 1 to 5, sentence by sentence. */
public final class TextEdgesTest {
    private static final int NONE = BathOrders.NONE;
    private static final int[] FAR = {Integer.MIN_VALUE, -256, -2, -1, Integer.MAX_VALUE};
    private static final String[] LANGUAGE = {"knight", "tub", "sit", "can", "pipe", "flinch", "seed", "law", "cool",
        "ease", "rise", "or", "and", "not", "heat", "bears", "rank", "stood", "litres", "long", "minute"};
    private static final String TWO = "knight k 0 0;tub t 1 0;tub u 1 0;";
    private static final Edges EDGES = new Edges();

    public static void main(String[] args) {
        words();
        rulesAndExpressions();
        blanksAndSigns();
        knights();
        tubs();
        sittingsCansPipes();
        flinchAndSeed();
        namesOfTheirKind();
        faultOrder();
        faultOne();
        faultTwo();
        knots();
        faultThree();
        faultFourAndFive();
        newObject();
        feed();
        text();
        textThatStays();
        fault();
        named();
        EDGES.end(args);
    }

    private static void sound(int lines, String text) {
        BathOrders x = new BathOrders();
        EDGES.same("lines of " + text, lines, Due.tell(x, text));
        EDGES.same("fault of " + text, 0, x.fault(0));
        EDGES.same("place of " + text, NONE, x.fault(1));
    }

    private static void faulty(int fault, int place, String text) {
        BathOrders x = new BathOrders();
        EDGES.same("lines of " + text, NONE, Due.tell(x, text));
        EDGES.same("fault of " + text, fault, x.fault(0));
        EDGES.same("place of " + text, place, x.fault(1));
    }

    /** A number that must be within these, at the end of what stands ahead of it. */
    private static void within(int least, int most, String ahead, String behind) {
        sound(ahead.split(";").length, ahead + least + behind);
        sound(ahead.split(";").length, ahead + most + behind);
        sound(ahead.split(";").length, ahead + "0000000000000000000000" + most + behind);
        if (least > 0) {
            faulty(2, ahead.length(), ahead + (least - 1) + behind);
        }
        String[] beyond = {"" + (most + 1), most + "0", "65536", "2147483648", "4294967296", "4294967297",
            "18446744073709551616", "18446744073709551617", "99999999999999999999999999999999999999"};
        for (String one : beyond) {
            boolean more = one.length() > 9 || Integer.parseInt(one) > most;
            if (more) {
                faulty(2, ahead.length(), ahead + one + behind);
            }
        }
    }

    private static void words() {
        EDGES.terms();
        EDGES.sentence("A TEXT: { LINE ';' }.");
        sound(0, "");
        sound(1, "flinch 1;");
        sound(2, "flinch 1;seed 1;");
        faulty(1, 8, "flinch 1");
        faulty(1, 0, ";");
        faulty(1, 9, "flinch 1;;");
        faulty(1, 9, "flinch 1 seed 1;");
        EDGES.sentence("Words: small letters in a row");
        sound(1, "knight az 1 1;");
        sound(1, "knight k1 1;");
        sound(1, "flinch1;");
        faulty(1, 0, "flin ch 1;");
        faulty(1, 0, "Knight k 1 1;");
        faulty(1, 8, "knight kK 1 1;");
        faulty(1, 8, "knight k_ 1 1;");
        faulty(1, 8, "knight k` 1 1;");
        faulty(1, 8, "knight k{ 1 1;");
        EDGES.sentence("W: one of 1 .. 6 letters, none of those of the language");
        sound(1, "knight a 0 0;");
        sound(1, "knight abcdef 0 0;");
        faulty(1, 7, "knight abcdefg 0 0;");
        faulty(1, 7, "knight abcdefghijklmnopqrstuvwxyzabcdefghijklm 0 0;");
        faulty(1, 7, "knight 0 0;");
        for (String word : LANGUAGE) {
            faulty(1, 7, "knight " + word + " 0 0;");
            faulty(1, 4, "tub " + word + " 1 0;");
            sound(1, "knight " + word.substring(1) + "q 0 0;");
            sound(1, "knight " + word.substring(0, word.length() - 1) + "q 0 0;");
        }
        EDGES.sentence("N: digits");
        within(0, 99, "knight k ", " 0;");
        faulty(1, 9, "knight k -1 0;");
        faulty(1, 9, "knight k +1 0;");
        faulty(1, 10, "knight k 1.5 0;");
        faulty(1, 10, "knight k 1a 0;");
        faulty(1, 9, "knight k / 0;");
        faulty(1, 9, "knight k : 0;");
    }

    private static void rulesAndExpressions() {
        EDGES.sentence("RULE: cool | ease | rise.");
        sound(3, "law cool 1;law ease 1;law rise 1;");
        for (String word : LANGUAGE) {
            if (!word.equals("cool") && !word.equals("ease") && !word.equals("rise")) {
                faulty(1, 4, "law " + word + " 1;");
            }
        }
        faulty(1, 4, "law cools 1;");
        faulty(1, 4, "law 1;");
        EDGES.sentence("B: not B | C.");
        sound(1, "law cool not not not 1;");
        sound(1, "law cool (not 1)+1;");
        sound(1, "law cool 1+(not 1)<(not not 1);");
        sound(1, "law cool 1 and not 1 or not 1;");
        for (String sign : new String[] {"<", "<=", "=", "<>", ">=", ">", "+", "-", "*", "/"}) {
            faulty(1, 10 + sign.length(), "law cool 1" + sign + "not 1;");
        }
        EDGES.sentence("C: S [ ( < | <= | = | <> | >= | > ) S ].");
        sound(1, "law cool 1<2 and 1<2 or not 1<2;");
        sound(1, "law cool (1<2)<(1<2);");
        sound(3, "law cool 1<2;law ease 1<2;law rise (1)<2;");
        faulty(1, 12, "law cool 1<2<3;");
        faulty(1, 14, "law cool 1<2+3=4;");
        faulty(1, 16, "law cool not 1<2>3;");
        faulty(1, 16, "law cool 1<(2>3)=4;");
        faulty(1, 13, "law cool (1<2<3);");
        EDGES.sentence("P: N | NAME | '(' E ')'");
        sound(1, "law cool (((1)));");
        faulty(1, 10, "law cool ();");
        faulty(1, 12, "law cool (1));");
        faulty(1, 13, "law cool ((1);");
        faulty(1, 9, "law cool )1(;");
        faulty(1, 9, "law cool -1;");
        faulty(1, 9, "law cool cool;");
        faulty(1, 9, "law cool k;");
        faulty(1, 13, "law cool heat1;");
    }

    private static void blanksAndSigns() {
        EDGES.sentence("Blanks 10, 32.");
        for (int sign = 0; sign < 256; sign++) {
            String text = "" + (char) sign;
            if (sign == 10 || sign == 32) {
                sound(0, text);
                sound(1, text + "flinch" + text + "1" + text + ";" + text);
            } else {
                faulty(1, 0, text);
            }
        }
        for (int sign : new int[] {0, 8, 9, 11, 12, 13, 31, 33, 127, 128, 138, 160, 255}) {
            faulty(1, 6, "flinch" + (char) sign + "1;");
        }
        EDGES.sentence("N of E 0 .. 9999.");
        within(0, 9999, "law cool ", ";");
        EDGES.same("as it is told", 9999, Due.told("tub t 1 0;law cool 9999;").law(0, 0, 0));
        EDGES.sentence("A = (or > behind <) right behind < or > belongs to it.");
        String[] signs = {"<=", ">=", "<>", "<", ">", "="};
        int[] values = {1, 0, 1, 1, 0, 0};
        for (int i = 0; i < signs.length; i++) {
            BathOrders x = Due.told("tub t 1 0;law cool 1" + signs[i] + "2;");
            EDGES.same("1" + signs[i] + "2", values[i], x.law(0, 0, 0));
            EDGES.same("knots of 1" + signs[i] + "2", 3, x.count(5));
        }
        faulty(1, 12, "law cool 1< =2;");
        faulty(1, 12, "law cool 1> =2;");
        faulty(1, 12, "law cool 1< >2;");
        faulty(1, 12, "law cool 1<\n=2;");
        for (String two : new String[] {"=<", "=>", "==", "><", "<<", ">>"}) {
            faulty(1, 11, "law cool 1" + two + "2;");
        }
        for (String three : new String[] {"<=>", "<>=", "<==", ">==", ">=>", "<><"}) {
            faulty(1, 12, "law cool 1" + three + "2;");
        }
    }

    private static void knights() {
        EDGES.sentence("KNIGHTS, at most 6: BEARS 0 .. 99, RANK 0 .. 9.");
        String six = "knight a 0 0;knight b 0 0;knight c 0 0;knight d 0 0;knight e 0 0;knight f 0 0;";
        sound(6, six);
        EDGES.same("the sixth is one", 0, Due.told(six).knight(5, 0));
        faulty(2, 78, six + "knight g 0 0;");
        faulty(2, 85, six + "seed 1;knight");
        within(0, 99, "knight k ", " 0;");
        within(0, 9, "knight k 0 ", ";");
    }

    private static void tubs() {
        EDGES.sentence("TUBS, at most 6: LITRES 1 .. 99, degrees 0 .. 99.");
        String six = "tub a 1 0;tub b 1 0;tub c 1 0;tub d 1 0;tub e 1 0;tub f 99 99;";
        sound(6, six);
        EDGES.same("the sixth is one", 99, Due.tub(Due.told(six), 5, 0));
        EDGES.same("of so many degrees", 990, Due.tub(Due.told(six), 5, 1));
        faulty(2, 62, six + "tub g 1 0;");
        within(1, 99, "tub t ", " 0;");
        within(0, 99, "tub t 1 ", ";");
    }

    private static void sittingsCansPipes() {
        EDGES.sentence("SITTINGS (sit), at most 12: a KNIGHT in a TUB from a MINUTE 0 .. 99 on.");
        sound(15, TWO + "sit k t 0;".repeat(12));
        faulty(2, TWO.length() + 120, TWO + "sit k t 0;".repeat(13));
        within(0, 99, TWO + "sit k t ", ";");
        EDGES.sentence("CANS, at most 10: into a TUB LITRES 1 .. 9 in a MINUTE 0 .. 99.");
        sound(13, TWO + "can t 1 0;".repeat(10));
        faulty(2, TWO.length() + 100, TWO + "can t 1 0;".repeat(11));
        within(1, 9, TWO + "can t ", " 0;");
        within(0, 99, TWO + "can t 1 ", ";");
        EDGES.sentence("PIPES, at most 8: from a TUB to another one, LITRES 1 .. 9 a MINUTE.");
        sound(11, TWO + "pipe t u 1;".repeat(8));
        faulty(2, TWO.length() + 88, TWO + "pipe t u 1;".repeat(9));
        within(1, 9, TWO + "pipe t u ", ";");
        faulty(5, TWO.length() + 7, TWO + "pipe t t 1;");
    }

    private static void flinchAndSeed() {
        EDGES.sentence("flinch: of a hundred 0 .. 100 (100).");
        within(0, 100, "flinch ", ";");
        EDGES.same("100 without", 0, Due.told("seed 1;").steady(1, 0));
        EDGES.same("100 told", 0, Due.told("flinch 100;").steady(1, 0));
        EDGES.same("99 told", 1, Due.told("flinch 99;").steady(1, 0));
        EDGES.same("0 told", 1, Due.told("flinch 0;").steady(1, 1));
        EDGES.sentence("seed: 0 .. 99999 (0).");
        within(0, 99999, "seed ", ";");
        String hot = "knight k 0 0;tub t 9 99;sit k t 0;sit k t 1;sit k t 2;sit k t 3;sit k t 4;sit k t 5;flinch 40;";
        BathOrders without = Due.told(hot);
        BathOrders zero = Due.told(hot + "seed 0;");
        BathOrders most = Due.told(hot + "seed 99999;");
        for (int minute = 0; minute < 6; minute++) {
            without.go(1);
            zero.go(1);
            most.go(1);
            EDGES.same("flinched without a seed, " + minute, zero.knight(0, 6), without.knight(0, 6));
            EDGES.same("flinched by seed 0, " + minute, Numbers.below(40, 0, minute + 1), zero.knight(0, 6));
            EDGES.same("flinched by seed 99999, " + minute, Numbers.below(40, 99999, minute + 1), most.knight(0, 6));
        }
    }

    private static void namesOfTheirKind() {
        EDGES.sentence("All numbered as they come; KNIGHTS, TUBS have names of their kind.");
        sound(2, "knight k 0 0;tub k 1 0;");
        sound(3, "knight k 0 0;tub k 1 0;sit k k 0;");
        BathOrders x = Due.told("tub b 1 0;knight b 1 0;tub a 2 0;knight a 2 0;");
        EDGES.same("knight b", 0, x.named(0, 2 << 25));
        EDGES.same("knight a", 1, x.named(0, 1 << 25));
        EDGES.same("tub b", 0, x.named(1, 2 << 25));
        EDGES.same("tub a", 1, x.named(1, 1 << 25));
        EDGES.same("what the first one bears", 1, x.knight(0, 0));
        EDGES.same("litres of the second one", 2, Due.tub(x, 1, 0));
    }

    private static void faultOrder() {
        EDGES.sentence("FAULTS, the first along the text (of one place the least), with its place");
        // The first along the text, be it of a higher number than a later one.
        faulty(2, 9, "knight k 100 k;");
        faulty(3, 20, "knight k 0 0;knight k 100;");
        faulty(4, 4, "sit k ! 0;");
        faulty(5, 17, "tub t 1 0;pipe t t !");
        faulty(2, 9, "law cool 10000 10000;");
        faulty(2, 78, "knight a 0 0;knight b 0 0;knight c 0 0;knight d 0 0;knight e 0 0;knight f 0 0;knight !");
        faulty(3, 9, "flinch 1;flinch !");
        // Of one place the least: what can't stand there is neither too much, nor told, nor untold.
        faulty(1, 7, "knight 100 0 0;");
        faulty(1, 14, "law cool 9999 10000;");
        faulty(1, 18, "law cool ((((((((1(");
        faulty(1, 16, "flinch 1;seed   flinch");
        faulty(1, 4, "sit knight t 0;");
        faulty(1, 4, "sit abcdefg t 0;");
        faulty(1, 15, "tub t 1 0;pipe tub tub 1;");
        faulty(1, 17, "tub t 1 0;pipe t pipe 1;");
        faulty(1, 17, "tub t 1 0;tub u  t 0;");
        faulty(1, 15, "law cool 1;law flinch 1;");
        // A name that is told, where it would be told again behind too many.
        faulty(2, 78, "knight a 0 0;knight b 0 0;knight c 0 0;knight d 0 0;knight e 0 0;knight f 0 0;knight a 0 0;");
    }

    private static void faultOne() {
        EDGES.sentence("1 a TOKEN that is none (a word of more than 6 letters that is none of the language, too)");
        for (String none : new String[] {"!", "A", "abcdefg", "knights", "minutes", "litress", "_", "\0", "\u00ff"}) {
            faulty(1, 0, none);
            faulty(1, 1, " " + none + " k 1 1;");
            faulty(1, 7, "knight " + none + " 1 1;");
            faulty(1, 9, "knight k " + none + " 1;");
            faulty(1, 12, "knight k 1 1" + (Character.isLetter(none.charAt(0)) ? "" : none) + none);
            faulty(1, 13, "knight k 1 1;" + none);
            faulty(1, 4, "law " + none + " 1;");
            faulty(1, 9, "law cool " + none + ";");
            faulty(1, 11, "law cool 1 " + none + " 1;");
        }
        EDGES.sentence("or can't stand there (the length, if more must come)");
        String[] lines = {"knight k 1 1 ;", "tub t 1 1 ;", "flinch 1 ;", "seed 1 ;", "law cool 1 ;", "law ease heat ;",
            "law rise not ( 1 + heat ) <= 2 and 3 or ( ( long ) ) * 2 / 1 - 5 ;"};
        for (String line : lines) {
            cutShort("", line.split(" "));
        }
        cutShort(TWO, "sit", "k", "t", "0", ";");
        cutShort(TWO, "can", "t", "1", "0", ";");
        cutShort(TWO, "pipe", "t", "u", "1", ";");
        String[] operands = {";", ")", "+", "<", "or", "and", "knight", "k", "cool"};
        for (String stray : operands) {
            faulty(1, 9, "law cool " + stray + ";");
            faulty(1, 12, "law cool 1 +" + stray + ";");
            faulty(1, 10, "law cool (" + stray + ";");
        }
        for (String stray : new String[] {"not", "1", "heat", "(", "knight", "k", "cool", ")"}) {
            faulty(1, 11, "law cool 1 " + stray + ";");
        }
        faulty(1, 12, "law cool 1 +not 1;");
        faulty(1, 12, "law cool 1 <not 1;");
        faulty(1, 12, "law cool 1<2<3;");
        faulty(1, 14, "law cool 1<2+1<3;");
        faulty(1, 11, "law cool (1;");
    }

    /** Every beginning of the line's tokens: more must come, with blanks behind it, too. */
    private static void cutShort(String ahead, String... tokens) {
        StringBuilder text = new StringBuilder(ahead);
        for (int i = 0; i < tokens.length - 1; i++) {
            text.append(i == 0 ? "" : " ").append(tokens[i]);
            faulty(1, text.length(), text.toString());
            faulty(1, text.length() + 3, text + " \n ");
        }
        sound(ahead.split(";").length + (ahead.isEmpty() ? 0 : 1), text + ";");
    }

    private static void faultTwo() {
        EDGES.sentence("2 too much (at it): a number beyond what is said");
        faulty(2, 9, "knight k 100 0;");
        faulty(2, 11, "knight k 0 10;");
        faulty(2, 6, "tub t 0 0;");
        faulty(2, 6, "tub t 100 0;");
        faulty(2, 8, "tub t 1 100;");
        faulty(2, TWO.length() + 8, TWO + "sit k t 100;");
        faulty(2, TWO.length() + 6, TWO + "can t 0 0;");
        faulty(2, TWO.length() + 6, TWO + "can t 10 0;");
        faulty(2, TWO.length() + 8, TWO + "can t 1 100;");
        faulty(2, TWO.length() + 9, TWO + "pipe t u 0;");
        faulty(2, TWO.length() + 9, TWO + "pipe t u 10;");
        faulty(2, 7, "flinch 101;");
        faulty(2, 5, "seed 100000;");
        faulty(2, 9, "law cool 10000;");
        EDGES.sentence("a seventh knight and so on (at the word of the LINE)");
        StringBuilder knights = new StringBuilder();
        StringBuilder tubs = new StringBuilder();
        for (char name = 'a'; name <= 'f'; name++) {
            knights.append("knight ").append(name).append(" 1 1;");
            tubs.append("tub ").append(name).append(" 1 1;");
        }
        tooMany(knights.toString(), "knight");
        tooMany(tubs.toString(), "tub");
        tooMany(TWO + "sit k t 0;".repeat(12), "sit");
        tooMany(TWO + "can t 1 0;".repeat(10), "can");
        tooMany(TWO + "pipe t u 1;".repeat(8), "pipe");
        EDGES.sentence("a ninth '(' open");
        sound(1, "law cool ((((((((1))))))));");
        faulty(2, 17, "law cool (((((((((1)))))))));");
        faulty(2, 17, "law cool (((((((((");
        faulty(2, 19, "law cool ((((((((1+((1");
        faulty(2, 21, "law cool 1+(2*(((((((((");
        sound(1, "law cool ((((((((1)+(2)))+(3))))));");
        sound(1, "law cool (1)+(1)+(1)+(1)+(1)+(1)+(1)+(1)+(1)+(1);");
        sound(2, "law cool ((((((((1))))))));law ease ((((((((1))))))));");
    }

    private static void tooMany(String most, String word) {
        sound(most.split(";").length, most);
        faulty(2, most.length(), most + word);
        faulty(2, most.length() + 2, most + "\n " + word + " !");
        faulty(2, most.length(), most + word + " a 1 1;");
    }

    private static void knots() {
        EDGES.sentence("a 65th KNOT of all E (N, NAMES, signs, not, and, or: one each)");
        EDGES.same("none", 0, Due.told("flinch 1;").count(5));
        EDGES.same("a number", 1, Due.told("law cool 1234;").count(5));
        for (String name : new String[] {"heat", "bears", "rank", "stood", "litres", "long", "minute"}) {
            EDGES.same(name, 1, Due.told("law cool " + name + ";").count(5));
        }
        String sum63 = "1" + "+1".repeat(31);
        String not64 = "law cool not " + sum63;
        for (String sign : new String[] {"<", "<=", "=", "<>", ">=", ">", "+", "-", "*", "/", " and ", " or "}) {
            EDGES.same("with " + sign, 3, Due.told("law cool 1" + sign + "1;").count(5));
            EDGES.same("64 with " + sign, 64, Due.told("law cool not 1" + "+1".repeat(30) + sign + "1;").count(5));
            faulty(2, not64.length() + (sign.startsWith(" ") ? 1 : 0), not64 + sign + "1;");
        }
        EDGES.same("not", 2, Due.told("law cool not 1;").count(5));
        EDGES.same("not 63 times", 64, Due.told("law cool " + "not ".repeat(63) + "1;").count(5));
        faulty(2, 9 + 256, "law cool " + "not ".repeat(64) + "1;");
        faulty(2, 9 + 256, "law cool " + "not ".repeat(64) + "not 1;");
        faulty(2, 9 + 64, "law cool " + "1+".repeat(32) + "1;");
        faulty(2, 9 + 64, "law cool " + "1+".repeat(32) + "minute;");
        faulty(2, 9 + 64, "law cool " + "1+".repeat(32) + "10000;");
        faulty(2, 9 + 65, "law cool " + "1+".repeat(32) + "(1);");
        faulty(1, 9 + 64, "law cool " + "1+".repeat(32) + "not 1;");
        faulty(1, not64.length() + 1, not64 + " not 1;");
        faulty(1, not64.length() + 1, not64 + " heat;");
        String brackets = "law cool ((not((((1" + "+1".repeat(31) + "))))));";
        sound(1, brackets);
        EDGES.same("brackets are none", 64, Due.told(brackets).count(5));
        // Of all E: 21, 21 and 22 are 64.
        String three = "law cool 1" + "+1".repeat(10) + ";law ease 1" + "+1".repeat(10) + ";law rise not 1"
            + "+1".repeat(10);
        EDGES.same("of three laws", 64, Due.told(three + ";").count(5));
        faulty(2, three.length(), three + "+1;");
    }

    private static void faultThree() {
        EDGES.sentence("3 told already: a name of its kind (at W)");
        faulty(3, 20, "knight k 0 0;knight k 0 0;");
        faulty(3, 33, "knight k 0 0;knight l 0 0;knight k");
        faulty(3, 33, "knight k 0 0;knight l 0 0;knight l");
        faulty(3, 24, "tub t 1 0;tub u 1 0;tub u 1 0;");
        faulty(3, 64, "tub a 1 0;tub b 1 0;tub c 1 0;tub d 1 0;tub e 1 0;seed 77;  tub e 1 0;");
        faulty(3, 14, "tub t 1 0;tub t 1 0;");
        faulty(3, 35, "knight abcdef 0 0;tub t 1 0;knight abcdef 0 0;");
        sound(2, "knight abcdef 0 0;knight abcde 0 0;");
        sound(2, "knight abcdef 0 0;knight bcdef 0 0;");
        sound(2, "knight a 0 0;knight aa 0 0;");
        EDGES.sentence("flinch, seed (at the word)");
        faulty(3, 9, "flinch 1;flinch 1;");
        faulty(3, 9, "flinch 1;flinch");
        faulty(3, 11, "flinch 100;flinch 100;");
        faulty(3, 7, "seed 0;seed 0;");
        faulty(3, 16, "seed 1;flinch 1;seed");
        sound(2, "seed 1;flinch 1;");
        EDGES.sentence("a law of its RULE (at RULE)");
        for (String rule : new String[] {"cool", "ease", "rise"}) {
            faulty(3, 15, "law " + rule + " 0;law " + rule + " 0;");
            faulty(3, 15, "law " + rule + " 0;law " + rule);
        }
        sound(3, "law rise 0;law ease 0;law cool 0;");
        faulty(3, 37, "law rise 0;law ease 0;law cool 0;law ease");
    }

    private static void faultFourAndFive() {
        EDGES.sentence("4 a KNIGHT, a TUB that isn't told ahead (at W)");
        faulty(4, 4, "sit k t 0;");
        faulty(4, 4, "sit k t 0;knight k 0 0;tub t 1 0;");
        faulty(4, 19, "knight k 0 0;sit k t 0;tub t 1 0;");
        faulty(4, 14, "tub t 1 0;sit t t 0;");
        faulty(4, 19, "knight k 0 0;sit k k 0;");
        faulty(4, 4, "can t 1 0;");
        faulty(4, 17, "knight t 0 0;can t 1 0;");
        faulty(4, 5, "pipe t u 1;");
        faulty(4, 17, "tub t 1 0;pipe t u 1;tub u 1 0;");
        faulty(4, 5, "pipe t t 1;");
        faulty(4, TWO.length() + 4, TWO + "sit kk t 0;");
        faulty(4, TWO.length() + 6, TWO + "sit k tt 0;");
        EDGES.sentence("5 a PIPE from a TUB to itself (at the second W)");
        faulty(5, TWO.length() + 7, TWO + "pipe t t 1;");
        faulty(5, TWO.length() + 7, TWO + "pipe u u 0;");
        faulty(5, TWO.length() + 7, TWO + "pipe u u");
        sound(5, TWO + "pipe t u 1;pipe u t 1;");
    }

    private static void newObject() {
        EDGES.promise(1);
        EDGES.sentence("A TEXT without LINES; an empty TAPE.");
        BathOrders x = new BathOrders();
        for (int what = 0; what <= 14; what++) {
            EDGES.same("count " + what, 0, x.count(what));
        }
        EDGES.alike("as behind a text without lines", State.of(Due.told("")), State.of(new BathOrders()));
        EDGES.alike("later, too", State.later(Due.told("")), State.later(new BathOrders()));
        EDGES.same("no byte", -2, new BathOrders().text(1));
        EDGES.same("no bytes are a text", 0, new BathOrders().text(0));
        EDGES.same("twenty bytes are the first", 20, new BathOrders().feed(0, 0, 0, 0, 0));
    }

    private static void feed() {
        EDGES.promise(2);
        EDGES.sentence("Twenty bytes come behind the TAPE, four of each number, the highest first: how many it has");
        for (int place = 0; place < 20; place++) {
            BathOrders x = new BathOrders();
            int[] five = {0x20202020, 0x20202020, 0x20202020, 0x20202020, 0x20202020};
            // A byte above 127 makes the number negative where it is the highest.
            five[place / 4] ^= (0x20 ^ 0xff) << 24 - 8 * (place % 4);
            EDGES.same("fed", 20, x.feed(0x20202020, 0x20202020, 0x20202020, 0x20202020, 0x20202020));
            EDGES.same("fed behind it", 40, x.feed(five[0], five[1], five[2], five[3], five[4]));
            EDGES.same("a stray byte", NONE, x.text(40));
            EDGES.same("the place of byte " + place, 20 + place, x.fault(1));
        }
        EDGES.sentence("NONE, and none come, if it would have more than 700.");
        BathOrders x = new BathOrders();
        for (int i = 1; i <= 35; i++) {
            EDGES.same("fed", 20 * i, x.feed(0x20202020, 0x20202020, 0x20202020, 0x20202020, 0x20202020));
        }
        EDGES.same("720 would be more", NONE, x.feed(0x21212121, 0, 0, 0, 0));
        EDGES.same("720 would be more yet", NONE, x.feed(0x21212121, 0, 0, 0, 0));
        EDGES.same("none came", -2, x.text(701));
        EDGES.same("none came in place of others", 0, x.text(700));
        EDGES.same("the tape is empty then", 20, x.feed(0, 0, 0, 0, 0));
        BathOrders y = new BathOrders();
        for (int i = 1; i <= 34; i++) {
            y.feed(0x20202020, 0x20202020, 0x20202020, 0x20202020, 0x20202020);
        }
        EDGES.same("700 are not too many", 700, y.feed(0x20202020, 0x20202020, 0x20202020, 0x20202020, 0x20202021));
        EDGES.same("the last byte is a stray one", NONE, y.text(700));
        EDGES.same("at its place", 699, y.fault(1));
    }

    private static void text() {
        EDGES.promise(3);
        EDGES.sentence("The TAPE's first n bytes (it is empty then) are the TEXT");
        BathOrders x = new BathOrders();
        // 'flinch 1;' and what is no text behind it.
        x.feed(0x666c696e, 0x63682031, 0x3b212121, 0x21212121, 0x21212121);
        EDGES.same("nine bytes", 1, x.text(9));
        EDGES.same("it is empty then", -2, x.text(1));
        x.feed(0x666c696e, 0x63682031, 0x3b212121, 0x21212121, 0x21212121);
        EDGES.same("one more is a fault", NONE, x.text(10));
        EDGES.same("it is empty then, too", -2, x.text(1));
        EDGES.same("as feed says", 20, x.feed(0x666c696e, 0x63682031, 0x3b212121, 0x21212121, 0x21212121));
        EDGES.same("no byte of twenty", 0, x.text(0));
        EDGES.same("it is empty then, too", -2, x.text(1));
        EDGES.same("no byte of none", 0, x.text(0));
        EDGES.sentence("(MINUTE 0, all KNIGHTS in no TUB, STOOD, BEST 0, no FACTS, all KNOWN, no IMAGE, nothing to undo then)");
        String text = "knight k 50 1;tub t 9 20;sit k t 0;flinch 30;seed 3;law rise 1;";
        BathOrders busy = State.busy();
        busy.text(0);
        EDGES.alike("all as of a new object behind a text without lines", State.of(new BathOrders()), State.of(busy));
        BathOrders again = State.busy();
        again.text(0);
        Due.tell(again, text);
        EDGES.alike("all as of a new object behind a text", State.of(Due.told(text)), State.of(again));
        EDGES.alike("and so later", State.later(Due.told(text)), State.later(again));
        BathOrders facts = State.busy();
        facts.text(0);
        Due.tell(facts, text);
        EDGES.same("no image", NONE, facts.back());
        EDGES.same("nothing to undo", NONE, facts.undo());
        EDGES.same("facts from 0 on", 0, facts.see(1, 0, 5, true));
        EDGES.same("all known", 0, facts.borne(0));
        textsBehindTexts();
        EDGES.sentence("how many LINES");
        sound(0, "\n");
        sound(1, "seed 1;");
        sound(25, TWO + "sit k t 0;".repeat(12) + "can t 1 0;".repeat(10));
        // As many as the terms allow at all: 6, 6, 12, 10, 8, 1, 1 and 3.
        StringBuilder most = new StringBuilder();
        for (char name = 'a'; name <= 'f'; name++) {
            most.append("knight ").append(name).append(" 1 1;tub ").append(name).append(" 1 1;");
        }
        most.append("sit a b 0;".repeat(12)).append("can a 1 0;".repeat(10)).append("pipe a b 1;".repeat(8));
        most.append("flinch 1;seed 1;law cool 1;law ease 1;law rise 1;");
        sound(47, most.toString());
        // 700 bytes are a text, too.
        sound(47, most + " ".repeat(700 - most.length()));
        sound(1, " ".repeat(693) + "seed 1;");
        faulty(1, 700, " ".repeat(694) + "seed 1");
    }

    /** Nothing of an earlier text, sound or not, is left in a later one, be it the third or the fourth. */
    private static void textsBehindTexts() {
        String most = "tub t 9 50;knight k 60 5;law ease 1" + "+1".repeat(20) + ";law rise 1+1<3;law cool not not not 1"
            + "+1".repeat(7) + ";";
        String[] texts = {most, "tub a 1 1;tub b 1 1;knight z 99 9;sit z b 0;pipe a b 9;can a 9 1;flinch 30;seed 5;law cool 3;",
            most, "law cool 1<2 or ((1+", "law cool ((((((((1 ", most, "law ease not not 1<", "flinch 20;seed 6;knight k 1 1;tub t 1 1;law rise 1;",
            "knight k 70 3;tub t 9 65;sit k t 0;can t 1 1;", "seed 99999;knight k 1 1;flinch", "law cool 1<2;law ease 2<1;",
            "knight k 0 0;tub t 9 99;sit k t 0;flinch 50;law cool (1<2)+(not 0);"};
        String last = "knight k 0 0;tub t 9 99;flinch 50;sit k t 0;sit k t 1;sit k t 2;sit k t 3;sit k t 4;sit k t 5;";
        for (int first = 0; first < texts.length; first++) {
            BathOrders x = new BathOrders();
            for (int i = 0; i < 5; i++) {
                String text = texts[(first + i) % texts.length];
                BathOrders alone = new BathOrders();
                EDGES.same("told behind others: " + text, Due.tell(alone, text), Due.tell(x, text));
                if (alone.fault(0) == 0) {
                    EDGES.alike("behind others as alone: " + text, State.of(alone), State.of(x));
                    EDGES.same("ease behind others: " + text, alone.law(1, 0, 0), x.law(1, 0, 0));
                    EDGES.same("rise behind others: " + text, alone.law(2, 0, 0), x.law(2, 0, 0));
                }
                x.go(4);
                x.keep();
            }
            Due.tell(x, last);
            EDGES.alike("the last one as alone, later, too", State.later(Due.told(last)), State.later(x));
        }
        BathOrders full = Due.told(most);
        for (int i = 0; i < 5; i++) {
            EDGES.same("64 knots", 64, full.count(5));
            EDGES.same("ease of 41 knots", 21, full.law(1, 0, 0));
            EDGES.same("rise of 5 knots", 1, full.law(2, 0, 0));
            EDGES.same("cool of the last 18 knots", 0, full.law(0, 0, 0));
            Due.tell(full, most);
        }
    }

    private static void textThatStays() {
        EDGES.sentence("NONE with a FAULT, all stays");
        for (String wrong : new String[] {"!", "knight z 1 1;knight z 1 1;", "flinch 3;seed 9;law cool 5;law rise 5;tub z 1 1"}) {
            BathOrders x = behindAnotherText();
            String before = State.of(x);
            EDGES.same("a fault of " + wrong, NONE, Due.tell(x, wrong));
            EDGES.yes("it is told", x.fault(0) > 0);
            // But for the fault itself all answers are as before.
            EDGES.alike("all stays", before, State.of(x).replaceFirst("fault \\d+ \\d+", "fault 0 -1"));
            String later = State.later(x).replaceAll("fault \\d+ \\d+", "fault 0 -1");
            EDGES.alike("all stays, and so later", State.later(behindAnotherText()), later);
        }
        EDGES.sentence("-2, and the TAPE stays: there are not so many, n is below 0.");
        for (int n : new int[] {21, 22, 40, 700, 701, 65556, Integer.MAX_VALUE, -1, -20, -2147483628, Integer.MIN_VALUE}) {
            EDGES.refused("text of " + n, -2, State::busy, x -> x.text(n));
            BathOrders x = State.busy();
            x.text(n);
            EDGES.same("the tape stays", 40, x.feed(0x20202020, 0, 0, 0, 0));
            EDGES.same("it has the same bytes", 1, x.text(24));
        }
        EDGES.same("one of an empty tape", -2, new BathOrders().text(1));
    }

    /** Much that a fault must leave alone, behind two texts, so that no room is a new one. */
    private static BathOrders behindAnotherText() {
        BathOrders x = State.busy();
        x.text(20);
        Due.tell(x, "knight a 40 5;knight b 60 2;tub t 10 50;tub u 20 70;sit a t 0;sit b u 1;sit a u 3;sit a t 6;"
            + "flinch 50;seed 7;law rise 2-rank/4;law cool 3;");
        x.go(2);
        x.keep();
        x.go(1);
        x.see(3, 0, 1, true);
        x.known(1);
        x.add(0, 5);
        x.pour(1, 0, 3);
        return x;
    }

    private static void fault() {
        EDGES.promise(4);
        EDGES.sentence("Of the latest text() that was not -2, what 0: its FAULT (0), 1: its place (NONE without).");
        BathOrders x = new BathOrders();
        EDGES.same("no text yet", 0, x.fault(0));
        EDGES.same("no place yet", NONE, x.fault(1));
        x.text(1);
        EDGES.same("only one that was -2", 0, x.fault(0));
        Due.tell(x, "flinch 101;");
        EDGES.same("a fault", 2, x.fault(0));
        EDGES.same("its place", 7, x.fault(1));
        x.text(-1);
        x.text(1);
        EDGES.same("the fault behind -2", 2, x.fault(0));
        EDGES.same("its place behind -2", 7, x.fault(1));
        Due.tell(x, "!");
        EDGES.same("another fault", 1, x.fault(0));
        EDGES.same("at 0", 0, x.fault(1));
        x.text(0);
        EDGES.same("no fault", 0, x.fault(0));
        EDGES.same("no place", NONE, x.fault(1));
        x.text(Integer.MIN_VALUE);
        EDGES.same("no fault behind -2", 0, x.fault(0));
        EDGES.sentence("NONE for another what.");
        Due.tell(x, "flinch 101;");
        for (int what : FAR) {
            EDGES.same("what " + what, NONE, x.fault(what));
        }
        EDGES.same("what 2", NONE, x.fault(2));
        EDGES.same("what 256", NONE, x.fault(256));
    }

    private static void named() {
        EDGES.promise(5);
        EDGES.sentence("The number of a KNIGHT (what 0), a TUB (1) by its letters, 5 bits each (a is 1; the first one highest of six, 0 behind the last one)");
        BathOrders x = Due.told("knight a 0 0;knight ab 0 0;knight zzzzzz 0 0;knight abcdef 0 0;knight aaaaaa 0 0;"
            + "knight z 0 0;tub z 1 0;tub aaaaa 1 0;");
        int[] knights = {1 << 25, 1 << 25 | 2 << 20, 26 * 0x2108421,
            1 << 25 | 2 << 20 | 3 << 15 | 4 << 10 | 5 << 5 | 6, 0x2108421, 26 << 25};
        for (int i = 0; i < knights.length; i++) {
            EDGES.same("knight " + i, i, x.named(0, knights[i]));
        }
        EDGES.same("tub z", 0, x.named(1, 26 << 25));
        EDGES.same("tub aaaaa", 1, x.named(1, 0x2108420));
        EDGES.sentence("NONE: there is none such.");
        int[] none = {0, 1, 26, 1 << 20, 1 << 25 | 1, 1 << 25 | 2 << 15, 27 << 25, 31 << 25, 1 << 25 | 1 << 30,
            1 << 25 | 1 << 31, 26 << 25 | 1 << 30, -1, Integer.MIN_VALUE, Integer.MAX_VALUE, 0x2108420};
        for (int letters : none) {
            EDGES.same("knight of letters " + letters, NONE, x.named(0, letters));
        }
        EDGES.same("tub of a knight's name", NONE, x.named(1, 1 << 25));
        for (int what : new int[] {Integer.MIN_VALUE, -1, 2, 3, 256, Integer.MAX_VALUE}) {
            EDGES.same("what " + what, NONE, x.named(what, 26 << 25));
        }
        EDGES.same("no knights", NONE, new BathOrders().named(0, 0));
        EDGES.same("no tubs", NONE, new BathOrders().named(1, 0));
        // The names of a text before are gone.
        Due.tell(x, "knight q 0 0;");
        EDGES.same("a name of the text before", NONE, x.named(0, 1 << 25));
        EDGES.same("a tub of the text before", NONE, x.named(1, 26 << 25));
    }
}
