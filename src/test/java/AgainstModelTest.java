import java.util.ArrayList;
import java.util.List;
import java.util.NoSuchElementException;
import java.util.Random;

/** Runs of calls drawn from fixed seeds: each answer must be that of PlainModel. */
public final class AgainstModelTest {
    private static final int RUNS = 700;
    private static final String[] NAMES = {"a", "bo", "cat", "dane", "ellen", "fergus", "g", "zzzzzz", "x"};
    private static final String[] VARIABLES = {"heat", "bears", "rank", "stood", "litres", "long", "minute"};
    private static final String[] COMPARISONS = {"<", "<=", "=", "<>", ">=", ">"};
    private static final String[] STRAYS = {"knight", "tub", "sit", "can", "pipe", "flinch", "seed", "law", "cool",
        "ease", "rise", "or", "and", "not", "heat", "minute", "a", "bo", "abcdefg", "0", "1", "9", "10", "99", "100",
        "9999", "10000", "99999999999999999999", ";", "(", ")", "+", "-", "*", "/", "<", "<=", "=", "<>", ">=", ">",
        "!", "A", "\n", "", " "};
    private static final int[] ODD = {Integer.MIN_VALUE, -3, -2, -1, 0, 1, 2, 3, 4, 5, 6, 7, 8, 9, 10, 14, 15, 20, 40,
        59, 60, 61, 98, 99, 100, 199, 200, 201, 700, 9999, Integer.MAX_VALUE};

    private static int wrong;
    private static int faultsSeen;
    private static int textsRead;

    private final Random random;
    private final BathOrders tested = new BathOrders();
    private final PlainModel model = new PlainModel();
    private final int run;

    private AgainstModelTest(int run) {
        this.run = run;
        this.random = new Random(run);
    }

    public static void main(String[] args) {
        for (int run = 0; run < RUNS && wrong < 20; run++) {
            new AgainstModelTest(run).play();
        }
        System.out.println(textsRead + " texts read, " + faultsSeen + " with a fault; " + wrong + " answers are wrong");
        if (textsRead < 500 || faultsSeen < 500) {
            System.out.println("too few texts of one sort: the runs say little");
            wrong++;
        }
        if (wrong != 0) {
            System.exit(1);
        }
    }

    private void play() {
        int calls = 0;
        if (random.nextInt(8) != 0) {
            calls += tell(script());
        }
        // One of forty runs is led up to the last minute, where the calls by chance go on.
        for (int i = 0; i < 60 && run % 40 == 7; i++) {
            int n = 150 + random.nextInt(60);
            same("go " + n, () -> tested.go(n), () -> model.go(n));
            calls++;
        }
        while (calls < 420 && wrong < 20) {
            if (random.nextInt(60) == 0) {
                calls += tell(spoiled(script()));
            } else if (random.nextInt(120) == 0) {
                calls += tell(script());
            } else {
                call();
                calls++;
            }
        }
    }

    // ---------------------------------------------------------------- texts

    private int tell(String text) {
        String cut = text.length() > 700 ? text.substring(0, 700) : text;
        int feeds = (cut.length() + 19) / 20;
        StringBuilder padded = new StringBuilder(cut);
        while (padded.length() < 20 * feeds) {
            padded.append((char) random.nextInt(256));
        }
        for (int i = 0; i < feeds; i++) {
            int[] five = new int[5];
            for (int k = 0; k < 20; k++) {
                five[k / 4] = five[k / 4] << 8 | padded.charAt(20 * i + k);
            }
            same("feed", () -> tested.feed(five[0], five[1], five[2], five[3], five[4]),
                () -> model.feed(five[0], five[1], five[2], five[3], five[4]));
        }
        same("text of " + cut, () -> tested.text(cut.length()), () -> model.text(cut.length()));
        same("fault 0 of " + cut, () -> tested.fault(0), () -> model.fault(0));
        same("fault 1 of " + cut, () -> tested.fault(1), () -> model.fault(1));
        if (model.fault(0) == 0) {
            textsRead++;
        } else {
            faultsSeen++;
        }
        return feeds + 3;
    }

    private String name() {
        return NAMES[random.nextInt(NAMES.length)];
    }

    private String script() {
        List<String> knights = new ArrayList<>();
        List<String> tubs = new ArrayList<>();
        StringBuilder text = new StringBuilder();
        int hot = random.nextInt(2) == 0 ? 99 : 50;
        for (int i = random.nextInt(7); i > 0; i--) {
            String name = name();
            if (!knights.contains(name)) {
                knights.add(name);
                line(text, "knight", name, "" + random.nextInt(100), "" + random.nextInt(10));
            }
        }
        for (int i = random.nextInt(7); i > 0; i--) {
            String name = name();
            if (!tubs.contains(name)) {
                tubs.add(name);
                int litres = random.nextInt(3) == 0 ? 1 + random.nextInt(6) : 1 + random.nextInt(99);
                line(text, "tub", name, "" + litres, "" + random.nextInt(hot + 1));
            }
        }
        if (!knights.isEmpty() && !tubs.isEmpty()) {
            for (int i = random.nextInt(13); i > 0; i--) {
                line(text, "sit", one(knights), one(tubs), minute());
            }
        }
        if (!tubs.isEmpty()) {
            for (int i = random.nextInt(8); i > 0; i--) {
                line(text, "can", one(tubs), "" + (1 + random.nextInt(9)), minute());
            }
        }
        if (tubs.size() > 1) {
            for (int i = random.nextInt(6); i > 0; i--) {
                String from = one(tubs);
                String to = one(tubs);
                if (!from.equals(to)) {
                    line(text, "pipe", from, to, "" + (1 + random.nextInt(9)));
                }
            }
        }
        if (random.nextInt(3) != 0) {
            int[] odds = {0, 1, 30, 49, 50, 60, 99, 100};
            line(text, "flinch", "" + odds[random.nextInt(odds.length)]);
        }
        if (random.nextInt(2) == 0) {
            line(text, "seed", "" + random.nextInt(100000));
        }
        for (String rule : new String[] {"cool", "ease", "rise"}) {
            if (random.nextInt(2) == 0) {
                text.append("law ").append(rule).append(' ').append(expression(random.nextInt(5))).append(';');
            }
        }
        return text.toString();
    }

    private String minute() {
        return "" + (random.nextInt(3) == 0 ? random.nextInt(100) : random.nextInt(6));
    }

    private String one(List<String> names) {
        return names.get(random.nextInt(names.size()));
    }

    private void line(StringBuilder text, String... parts) {
        for (String part : parts) {
            text.append(part).append(random.nextInt(9) == 0 ? "\n" : random.nextInt(20) == 0 ? "  " : " ");
        }
        text.append(random.nextInt(5) == 0 ? ";\n" : ";");
    }

    private String expression(int depth) {
        if (depth <= 0) {
            int number = random.nextInt(3) == 0 ? random.nextInt(10000) : random.nextInt(20);
            return random.nextInt(3) == 0 ? "" + number : VARIABLES[random.nextInt(VARIABLES.length)];
        }
        String left = expression(depth - 1 - random.nextInt(2));
        String right = expression(depth - 1 - random.nextInt(2));
        switch (random.nextInt(10)) {
            case 0:
                return left + " or " + right;
            case 1:
                return left + " and " + right;
            case 2:
                return random.nextInt(2) == 0 ? "not " + left : "not(" + left + ")";
            case 3:
                return "(" + left + ")" + COMPARISONS[random.nextInt(6)] + "(" + right + ")";
            case 4:
                return left + COMPARISONS[random.nextInt(6)] + right;
            case 5:
                return left + "+" + right;
            case 6:
                return left + " - " + right;
            case 7:
                return left + "*" + right;
            case 8:
                return left + "/" + right;
            default:
                return "(" + left + ")";
        }
    }

    private String spoiled(String text) {
        StringBuilder spoiled = new StringBuilder(text);
        for (int i = 1 + random.nextInt(3); i > 0; i--) {
            int from = random.nextInt(spoiled.length() + 1);
            int to = Math.min(spoiled.length(), from + random.nextInt(4));
            String stray = STRAYS[random.nextInt(STRAYS.length)];
            switch (random.nextInt(4)) {
                case 0 -> spoiled.replace(from, to, "");
                case 1 -> spoiled.replace(from, to, stray);
                case 2 -> spoiled.insert(from, " " + stray + " ");
                default -> spoiled.setLength(from);
            }
        }
        return spoiled.toString();
    }

    // ---------------------------------------------------------------- calls

    private int number() {
        return random.nextInt(6) == 0 ? ODD[random.nextInt(ODD.length)] : random.nextInt(7);
    }

    private int degrees() {
        return random.nextInt(8) == 0 ? ODD[random.nextInt(ODD.length)] : random.nextInt(100);
    }

    private int many(int most) {
        return random.nextInt(8) == 0 ? ODD[random.nextInt(ODD.length)] : random.nextInt(most + 1);
    }

    private void call() {
        int a = number();
        int b = number();
        int c = number();
        switch (random.nextInt(40)) {
            case 0 -> same("fault " + a, () -> tested.fault(a), () -> model.fault(a));
            case 1 -> {
                int letters = letters(name());
                same("named " + a + " " + letters, () -> tested.named(a, letters), () -> model.named(a, letters));
            }
            case 2, 3 -> same("tub " + a + " " + b, () -> tested.tub(a, b), () -> model.tub(a, b));
            case 4, 5 -> same("knight " + a + " " + b, () -> tested.knight(a, b), () -> model.knight(a, b));
            case 6 -> same("atEase " + a + " " + b, () -> tested.atEase(a, b), () -> model.atEase(a, b));
            case 7 -> same("law " + a + " " + b + " " + c, () -> tested.law(a, b, c), () -> model.law(a, b, c));
            case 8 -> {
                int litres = many(60);
                same("add " + a + " " + litres, () -> tested.add(a, litres), () -> model.add(a, litres));
            }
            case 9 -> {
                int litres = many(60);
                same("pour " + a + " " + b + " " + litres, () -> tested.pour(a, b, litres),
                    () -> model.pour(a, b, litres));
            }
            case 10, 11 -> same("sit " + a + " " + b, () -> tested.sit(a, b) ? 1 : 0, () -> model.sit(a, b) ? 1 : 0);
            case 12 -> same("rise " + a, () -> tested.rise(a) ? 1 : 0, () -> model.rise(a) ? 1 : 0);
            case 13, 14 -> {
                int n = random.nextInt(12) == 0 ? many(200) : random.nextInt(3);
                same("go " + n, () -> tested.go(n), () -> model.go(n));
            }
            case 15 -> {
                int n = many(200);
                same("ahead " + n + " " + a + " " + b, () -> tested.ahead(n, a, b), () -> model.ahead(n, a, b));
            }
            case 16 -> {
                int degrees = degrees();
                same("cools " + a + " " + degrees, () -> tested.cools(a, degrees), () -> model.cools(a, degrees));
            }
            case 17 -> same("flinches " + a, () -> tested.flinches(a), () -> model.flinches(a));
            case 18 -> same("order " + a, () -> tested.order(a), () -> model.order(a));
            case 19 -> {
                int degrees = degrees();
                same("addFor " + a + " " + degrees, () -> tested.addFor(a, degrees), () -> model.addFor(a, degrees));
            }
            case 20 -> {
                int degrees = degrees();
                same("coal " + degrees, () -> tested.coal(degrees), () -> model.coal(degrees));
            }
            case 21 -> {
                int tubs = random.nextInt(70) - 2;
                same("together " + tubs + " " + a, () -> tested.together(tubs, a % 2), () -> model.together(tubs, a % 2));
            }
            case 22 -> same("match " + (a + b), () -> tested.match(a + b), () -> model.match(a + b));
            case 23 -> {
                int degrees = degrees();
                int what = random.nextInt(4) - 1;
                same("game " + a + " " + degrees + " " + what, () -> tested.game(a, degrees, what),
                    () -> model.game(a, degrees, what));
            }
            case 24 -> same("tells " + a, () -> tested.tells(a), () -> model.tells(a));
            case 25 -> same("rests " + a + " " + b, () -> tested.rests(a, b), () -> model.rests(a, b));
            case 26 -> same("rest " + a + " " + b + " " + c, () -> tested.rest(a, b, c), () -> model.rest(a, b, c));
            case 27 -> same("steady " + a + " " + b, () -> tested.steady(a, b), () -> model.steady(a, b));
            case 28 -> see(a);
            case 29 -> {
                int fact = many(Math.max(1, model.count(12)));
                same("strike " + fact, () -> tested.strike(fact), () -> model.strike(fact));
            }
            case 30 -> {
                int n = many(Math.max(1, model.count(12) + 1)) - 1;
                same("known " + n, () -> tested.known(n) ? 1 : 0, () -> model.known(n) ? 1 : 0);
            }
            case 31 -> same("borne " + a, () -> tested.borne(a), () -> model.borne(a));
            case 32 -> same("ask " + a + " " + b % 3, () -> tested.ask(a, b % 3), () -> model.ask(a, b % 3));
            case 33 -> {
                int seed = random.nextInt();
                int n = random.nextInt(5) == 0 ? many(99) : random.nextInt(8);
                same("chance " + seed + " " + n + " " + a, () -> tested.chance(seed, n, a),
                    () -> model.chance(seed, n, a));
            }
            case 34 -> {
                int n = many(200);
                int i = a == 2 ? b : random.nextInt(9) == 0 ? b : 0;
                same("tried " + a + " " + i + " " + n, () -> tested.tried(a, i, n), () -> model.tried(a, i, n));
            }
            case 35 -> same("undo", tested::undo, model::undo);
            case 36 -> {
                if (random.nextInt(2) == 0) {
                    same("keep", tested::keep, model::keep);
                } else {
                    same("back", tested::back, model::back);
                }
            }
            default -> {
                int what = random.nextInt(17) - 1;
                same("count " + what, () -> tested.count(what), () -> model.count(what));
            }
        }
    }

    private void see(int knight) {
        int minutes = random.nextInt(6) == 0 ? many(60) : 1 + random.nextInt(8);
        int stood = random.nextInt(6) == 0 ? many(99) : random.nextInt(5);
        boolean atLeast = random.nextBoolean();
        same("see " + minutes + " " + knight + " " + stood + " " + atLeast,
            () -> tested.see(minutes, knight, stood, atLeast), () -> model.see(minutes, knight, stood, atLeast));
    }

    private static int letters(String name) {
        int letters = 0;
        for (int i = 0; i < 6; i++) {
            letters = letters << 5 | (i < name.length() ? name.charAt(i) - 96 : 0);
        }
        return letters;
    }

    interface Call {
        long answer();
    }

    private void same(String what, Call test, Call due) {
        String got = answerOf(test);
        String want = answerOf(due);
        if (!got.equals(want) || got.contains("Exception")) {
            wrong++;
            System.out.println("run " + run + ": " + what + " answered " + got + ", due is " + want);
        }
    }

    private static String answerOf(Call call) {
        try {
            return "" + call.answer();
        } catch (IndexOutOfBoundsException e) {
            return e.getClass() == IndexOutOfBoundsException.class ? "no such tub" : "" + e;
        } catch (NoSuchElementException e) {
            return e.getClass() == NoSuchElementException.class ? "no such what" : "" + e;
        } catch (RuntimeException e) {
            return "" + e;
        }
    }
}
