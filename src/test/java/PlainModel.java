import java.math.BigInteger;
import java.util.ArrayDeque;
import java.util.ArrayList;
import java.util.Comparator;
import java.util.Deque;
import java.util.List;
import java.util.NoSuchElementException;
import java.util.Set;

/**
 * The document once more, written in another way and with the whole Java library: the class under
 * test is compared with it on runs of calls.
 */
final class PlainModel {
    static final class Fault extends RuntimeException {
        private static final long serialVersionUID = 1;
        final int kind;
        final int place;

        Fault(int kind, int place) {
            this.kind = kind;
            this.place = place;
        }
    }

    static final class Wrong extends RuntimeException {
        private static final long serialVersionUID = 1;
    }

    interface Expression {
        BigInteger value(long[] names);
    }

    record Told(String name, int first, int second) { }

    record Row(int first, int second, int third) { }

    static final class Script {
        final List<Told> knights = new ArrayList<>();
        final List<Told> tubs = new ArrayList<>();
        final List<Row> sittings = new ArrayList<>();
        final List<Row> cans = new ArrayList<>();
        final List<Row> pipes = new ArrayList<>();
        final Expression[] laws = new Expression[3];
        int flinch = 100;
        int seed;
        int knots;
        int lines;
    }

    // ---------------------------------------------------------------- reading

    static final class Parser {
        private static final Set<String> LANGUAGE = Set.of("knight", "tub", "sit", "can", "pipe", "flinch", "seed",
            "law", "cool", "ease", "rise", "or", "and", "not", "heat", "bears", "rank", "stood", "litres", "long",
            "minute");
        private static final List<String> RULES = List.of("cool", "ease", "rise");
        private static final List<String> NAMES =
            List.of("heat", "bears", "rank", "stood", "litres", "long", "minute");
        private static final Set<String> COMPARISONS = Set.of("<", "<=", "=", "<>", ">=", ">");
        private final String text;
        private final Script script = new Script();
        private int position;
        private int place;
        private String token;
        private int open;

        Parser(String text) {
            this.text = text;
        }

        Script parse() {
            boolean flinchTold = false;
            boolean seedTold = false;
            next();
            while (!token.isEmpty()) {
                switch (token) {
                    case "knight" -> {
                        room(script.knights, 6);
                        script.knights.add(new Told(newName(script.knights), number(0, 99), number(0, 9)));
                    }
                    case "tub" -> {
                        room(script.tubs, 6);
                        script.tubs.add(new Told(newName(script.tubs), number(1, 99), number(0, 99)));
                    }
                    case "sit" -> {
                        room(script.sittings, 12);
                        script.sittings.add(new Row(told(script.knights), told(script.tubs), number(0, 99)));
                    }
                    case "can" -> {
                        room(script.cans, 10);
                        script.cans.add(new Row(told(script.tubs), number(1, 9), number(0, 99)));
                    }
                    case "pipe" -> {
                        room(script.pipes, 8);
                        int from = told(script.tubs);
                        int at = place;
                        int to = told(script.tubs);
                        if (from == to) {
                            throw new Fault(5, at);
                        }
                        script.pipes.add(new Row(from, to, number(1, 9)));
                    }
                    case "flinch" -> {
                        if (flinchTold) {
                            throw new Fault(3, place);
                        }
                        flinchTold = true;
                        next();
                        script.flinch = number(0, 100);
                    }
                    case "seed" -> {
                        if (seedTold) {
                            throw new Fault(3, place);
                        }
                        seedTold = true;
                        next();
                        script.seed = number(0, 99999);
                    }
                    case "law" -> {
                        next();
                        int rule = RULES.indexOf(token);
                        if (rule < 0) {
                            throw new Fault(1, place);
                        }
                        if (script.laws[rule] != null) {
                            throw new Fault(3, place);
                        }
                        next();
                        script.laws[rule] = either();
                    }
                    default -> throw new Fault(1, place);
                }
                if (!token.equals(";")) {
                    throw new Fault(1, place);
                }
                next();
                script.lines++;
            }
            return script;
        }

        /** The token is "" at the end, and of one sign "?" where it is none. */
        private void next() {
            while (position < text.length() && (text.charAt(position) == 10 || text.charAt(position) == 32)) {
                position++;
            }
            place = position;
            String rest = text.substring(position);
            if (rest.isEmpty()) {
                token = "";
                return;
            }
            java.util.regex.Matcher found =
                java.util.regex.Pattern.compile("[a-z]+|[0-9]+|<=|<>|>=|[;()<>=+*/-]").matcher(rest);
            if (!found.lookingAt()) {
                token = "?";
                return;
            }
            token = found.group();
            position += token.length();
            if (Character.isLetter(token.charAt(0)) && token.length() > 6) {
                token = "?";
            }
        }

        private void room(List<?> rows, int most) {
            if (rows.size() == most) {
                throw new Fault(2, place);
            }
            next();
        }

        private String name() {
            if (token.isEmpty() || token.charAt(0) < 'a' || token.charAt(0) > 'z' || LANGUAGE.contains(token)) {
                throw new Fault(1, place);
            }
            return token;
        }

        private String newName(List<Told> rows) {
            String name = name();
            if (rows.stream().anyMatch(row -> row.name().equals(name))) {
                throw new Fault(3, place);
            }
            next();
            return name;
        }

        private int told(List<Told> rows) {
            String name = name();
            for (int i = 0; i < rows.size(); i++) {
                if (rows.get(i).name().equals(name)) {
                    next();
                    return i;
                }
            }
            throw new Fault(4, place);
        }

        private boolean isNumber() {
            return !token.isEmpty() && token.charAt(0) >= '0' && token.charAt(0) <= '9';
        }

        private int number(int least, int most) {
            if (!isNumber()) {
                throw new Fault(1, place);
            }
            BigInteger value = new BigInteger(token);
            if (value.compareTo(BigInteger.valueOf(least)) < 0 || value.compareTo(BigInteger.valueOf(most)) > 0) {
                throw new Fault(2, place);
            }
            next();
            return value.intValue();
        }

        private void knot() {
            if (script.knots == 64) {
                throw new Fault(2, place);
            }
            script.knots++;
        }

        private Expression either() {
            Expression left = both();
            while (token.equals("or")) {
                knot();
                next();
                left = joined("or", left, both());
            }
            return left;
        }

        private Expression both() {
            Expression left = denied();
            while (token.equals("and")) {
                knot();
                next();
                left = joined("and", left, denied());
            }
            return left;
        }

        private Expression denied() {
            if (token.equals("not")) {
                knot();
                next();
                Expression inner = denied();
                return names -> flag(inner.value(names).signum() == 0);
            }
            Expression left = sum();
            if (COMPARISONS.contains(token)) {
                String sign = token;
                knot();
                next();
                return joined(sign, left, sum());
            }
            return left;
        }

        private Expression sum() {
            Expression left = product();
            while (token.equals("+") || token.equals("-")) {
                String sign = token;
                knot();
                next();
                left = joined(sign, left, product());
            }
            return left;
        }

        private Expression product() {
            Expression left = part();
            while (token.equals("*") || token.equals("/")) {
                String sign = token;
                knot();
                next();
                left = joined(sign, left, part());
            }
            return left;
        }

        private Expression part() {
            if (token.equals("(")) {
                if (open == 8) {
                    throw new Fault(2, place);
                }
                open++;
                next();
                Expression inner = either();
                if (!token.equals(")")) {
                    throw new Fault(1, place);
                }
                open--;
                next();
                return inner;
            }
            int name = NAMES.indexOf(token);
            if (name >= 0) {
                knot();
                next();
                return names -> BigInteger.valueOf(names[name]);
            }
            if (!isNumber()) {
                throw new Fault(1, place);
            }
            int at = place;
            BigInteger value = new BigInteger(token);
            if (value.compareTo(BigInteger.valueOf(9999)) > 0) {
                throw new Fault(2, at);
            }
            knot();
            next();
            return names -> value;
        }

        private static BigInteger flag(boolean so) {
            return so ? BigInteger.ONE : BigInteger.ZERO;
        }

        private static Expression joined(String sign, Expression left, Expression right) {
            return names -> {
                BigInteger a = left.value(names);
                BigInteger b = right.value(names);
                BigInteger value = switch (sign) {
                    case "or" -> flag(a.signum() != 0 || b.signum() != 0);
                    case "and" -> flag(a.signum() != 0 && b.signum() != 0);
                    case "<" -> flag(a.compareTo(b) < 0);
                    case "<=" -> flag(a.compareTo(b) <= 0);
                    case "=" -> flag(a.equals(b));
                    case "<>" -> flag(!a.equals(b));
                    case ">=" -> flag(a.compareTo(b) >= 0);
                    case ">" -> flag(a.compareTo(b) > 0);
                    case "+" -> a.add(b);
                    case "-" -> a.subtract(b);
                    case "*" -> a.multiply(b);
                    default -> {
                        if (b.signum() == 0) {
                            throw new Wrong();
                        }
                        yield a.divide(b);
                    }
                };
                if (value.abs().compareTo(BigInteger.TEN.pow(12)) > 0) {
                    throw new Wrong();
                }
                return value;
            };
        }
    }

    // ---------------------------------------------------------------- what changes

    static final class Tub implements Cloneable {
        int litres;
        int heat;

        void mix(int more, int moreHeat) {
            heat = (litres * heat + more * moreHeat) / (litres + more);
            litres += more;
        }
    }

    static final class Knight {
        int bears;
        int rank;
        int tub = -2;
        int stood;
        int best;
        int stay;
        int flinched;
    }

    /** How minutes go by. */
    enum Way { DRAWN, AS_IT_GOES, ALL_FLINCH, NOBODY_FLINCHES, WITHOUT_SITTINGS, WITHOUT_CANS, WITHOUT_COOLING }

    final class World {
        final List<Tub> tubs = new ArrayList<>();
        final List<Knight> knights = new ArrayList<>();
        int minute;
        int sent;
        long last = script.seed;

        World() {
            for (Told told : script.tubs) {
                Tub tub = new Tub();
                tub.litres = told.first();
                tub.heat = 10 * told.second();
                tubs.add(tub);
            }
            for (Told told : script.knights) {
                Knight knight = new Knight();
                knight.bears = told.first();
                knight.rank = told.second();
                knights.add(knight);
            }
        }

        World copy() {
            World copy = new World();
            for (int i = 0; i < tubs.size(); i++) {
                copy.tubs.get(i).litres = tubs.get(i).litres;
                copy.tubs.get(i).heat = tubs.get(i).heat;
            }
            for (int i = 0; i < knights.size(); i++) {
                Knight from = knights.get(i);
                Knight to = copy.knights.get(i);
                to.bears = from.bears;
                to.tub = from.tub;
                to.stood = from.stood;
                to.best = from.best;
                to.stay = from.stay;
                to.flinched = from.flinched;
            }
            copy.minute = minute;
            copy.sent = sent;
            copy.last = last;
            return copy;
        }

        /** Null with an error, without a law. */
        Long law(int rule, Knight knight, Tub tub, int stay) {
            if (script.laws[rule] == null) {
                return null;
            }
            long[] names = {tub.heat / 10, 0, 0, 0, tub.litres, 0, minute};
            if (rule != 0) {
                names[1] = knight.bears;
                names[2] = knight.rank;
                names[3] = knight.stood;
                names[5] = stay;
            }
            try {
                return script.laws[rule].value(names).longValueExact();
            } catch (Wrong wrong) {
                return null;
            }
        }

        boolean ease(Knight knight, Tub tub, int stay) {
            Long worth = law(1, knight, tub, stay);
            return worth == null ? tub.heat <= 10 * knight.bears : worth != 0;
        }

        int holder(int tub) {
            for (int i = 0; i < knights.size(); i++) {
                if (knights.get(i).tub == tub) {
                    return i;
                }
            }
            return -2;
        }

        boolean enter(int knight, int tub) {
            if (holder(tub) != -2) {
                return false;
            }
            knights.get(knight).tub = tub;
            knights.get(knight).stay = 0;
            return true;
        }

        int number() {
            last = BigInteger.valueOf(last).multiply(BigInteger.valueOf(1103515245L)).add(BigInteger.valueOf(12345))
                .mod(BigInteger.TWO.pow(31)).longValue();
            return (int) (last / 65536);
        }

        boolean flinches(Way way) {
            switch (way) {
                case DRAWN:
                    return script.flinch != 0 && (script.flinch == 100 || number() % 100 < script.flinch);
                case ALL_FLINCH:
                    return true;
                case NOBODY_FLINCHES:
                    return false;
                default:
                    return script.flinch >= 50;
            }
        }

        World go(int n, Way way, int one) {
            for (int i = 0; i < n; i++) {
                minute(way, one);
            }
            return this;
        }

        void minute(Way way, int one) {
            for (Row can : script.cans) {
                Tub tub = tubs.get(can.first());
                if (way != Way.WITHOUT_CANS && can.third() == minute && tub.litres + can.second() <= 999) {
                    tub.mix(can.second(), 990);
                }
            }
            for (Row pipe : script.pipes) {
                Tub from = tubs.get(pipe.first());
                Tub to = tubs.get(pipe.second());
                int litres = from.litres <= pipe.third() ? from.litres - 1 : pipe.third();
                if (litres != 0 && to.litres + litres <= 999) {
                    to.mix(litres, from.heat);
                    from.litres -= litres;
                }
            }
            if (way != Way.WITHOUT_COOLING) {
                for (Tub tub : tubs) {
                    Long worth = law(0, null, tub, 0);
                    long less = worth == null ? Math.max(0, (tub.heat - 200) / 50) : Math.max(0, Math.min(99, worth));
                    tub.heat = (int) Math.max(0, tub.heat - less);
                }
            }
            for (Row sitting : script.sittings) {
                boolean without = way == Way.WITHOUT_SITTINGS && sitting.first() == one;
                if (sitting.third() == minute && !without && !enter(sitting.first(), sitting.second())) {
                    sent++;
                }
            }
            for (Knight knight : knights) {
                if (knight.tub != -2) {
                    stand(knight, tubs.get(knight.tub), way);
                }
            }
            minute++;
        }

        void stand(Knight knight, Tub tub, Way way) {
            if (ease(knight, tub, knight.stay)) {
                knight.best = Math.max(knight.best, tub.heat);
            } else if (flinches(way)) {
                knight.tub = -2;
                knight.stay = 0;
                knight.flinched++;
                return;
            }
            knight.stood = Math.min(9999, knight.stood + 1);
            knight.stay++;
            Long worth = law(2, knight, tub, knight.stay);
            long more = worth == null ? 0 : Math.max(-9, Math.min(9, worth));
            knight.bears = (int) Math.max(0, Math.min(99, knight.bears + more));
        }

        int stoodInSum() {
            return knights.stream().mapToInt(knight -> knight.stood).sum();
        }

        int flinchedInSum() {
            return knights.stream().mapToInt(knight -> knight.flinched).sum();
        }
    }

    record Seen(int minutes, int knight, int stood, boolean atLeast, int strikes) { }

    private final StringBuilder tape = new StringBuilder();
    private Script script = new Script();
    private World now = new World();
    private World image;
    private final Deque<World> past = new ArrayDeque<>();
    private final List<Seen> seen = new ArrayList<>();
    private int knownBy = -1;
    private int fault;
    private int faultPlace = -1;

    // ---------------------------------------------------------------- the face

    int feed(int a, int b, int c, int d, int e) {
        if (tape.length() + 20 > 700) {
            return -1;
        }
        for (int number : new int[] {a, b, c, d, e}) {
            for (byte one : java.nio.ByteBuffer.allocate(4).putInt(number).array()) {
                tape.append((char) (one & 255));
            }
        }
        return tape.length();
    }

    int text(int n) {
        if (n < 0 || n > tape.length()) {
            return -2;
        }
        String text = tape.substring(0, n);
        tape.setLength(0);
        try {
            script = new Parser(text).parse();
        } catch (Fault found) {
            fault = found.kind;
            faultPlace = found.place;
            return -1;
        }
        fault = 0;
        faultPlace = -1;
        now = new World();
        image = null;
        past.clear();
        seen.clear();
        knownBy = -1;
        return script.lines;
    }

    int fault(int what) {
        return what == 0 ? fault : what == 1 ? faultPlace : -1;
    }

    int named(int what, int letters) {
        if (what < 0 || what > 1) {
            return -1;
        }
        List<Told> rows = what == 0 ? script.knights : script.tubs;
        for (int i = 0; i < rows.size(); i++) {
            StringBuilder bits = new StringBuilder();
            for (char letter : rows.get(i).name().toCharArray()) {
                bits.append(Integer.toBinaryString(32 + letter - 96).substring(1));
            }
            while (bits.length() < 30) {
                bits.append('0');
            }
            if (Integer.parseInt(bits.toString(), 2) == letters) {
                return i;
            }
        }
        return -1;
    }

    private boolean isTub(int tub) {
        return tub >= 0 && tub < script.tubs.size();
    }

    private boolean isKnight(int knight) {
        return knight >= 0 && knight < script.knights.size();
    }

    int tub(int tub, int what) {
        if (!isTub(tub)) {
            throw new IndexOutOfBoundsException();
        }
        Tub one = now.tubs.get(tub);
        return switch (what) {
            case 0 -> one.litres;
            case 1 -> one.heat;
            case 2 -> now.holder(tub);
            default -> throw new NoSuchElementException();
        };
    }

    int knight(int knight, int what) {
        if (!isKnight(knight)) {
            return -1;
        }
        Knight one = now.knights.get(knight);
        int[] answers = {one.bears, one.rank, one.tub, one.stood, one.best, one.stay, one.flinched};
        return what < 0 || what >= answers.length ? -1 : answers[what];
    }

    int atEase(int knight, int tub) {
        return isKnight(knight) && isTub(tub) ? easeNow(knight, tub) ? 1 : 0 : -1;
    }

    private boolean easeNow(int knight, int tub) {
        return now.ease(now.knights.get(knight), now.tubs.get(tub), 0);
    }

    long law(int what, int knight, int tub) {
        if (what < 0 || what > 2 || !isTub(tub) || what != 0 && !isKnight(knight)) {
            return Long.MIN_VALUE;
        }
        Long worth = now.law(what, what == 0 ? null : now.knights.get(knight), now.tubs.get(tub), 0);
        return worth == null ? Long.MIN_VALUE : worth;
    }

    private void remember() {
        past.push(now.copy());
        if (past.size() > 20) {
            past.removeLast();
        }
    }

    int add(int tub, int litres) {
        if (!isTub(tub) || litres < 1 || litres > 60) {
            return -1;
        }
        if (now.tubs.get(tub).litres + litres > 999) {
            return -2;
        }
        remember();
        now.tubs.get(tub).mix(litres, 990);
        return now.tubs.get(tub).heat;
    }

    int pour(int from, int to, int litres) {
        if (!isTub(from) || !isTub(to) || from == to || litres < 1 || litres > 60) {
            return -1;
        }
        if (now.tubs.get(from).litres <= litres || now.tubs.get(to).litres + litres > 999) {
            return -2;
        }
        remember();
        now.tubs.get(from).litres -= litres;
        now.tubs.get(to).mix(litres, now.tubs.get(from).heat);
        return now.tubs.get(to).heat;
    }

    boolean sit(int knight, int tub) {
        if (!isKnight(knight) || !isTub(tub) || now.holder(tub) != -2) {
            return false;
        }
        remember();
        return now.enter(knight, tub);
    }

    boolean rise(int knight) {
        if (!isKnight(knight) || now.knights.get(knight).tub == -2) {
            return false;
        }
        remember();
        now.knights.get(knight).tub = -2;
        now.knights.get(knight).stay = 0;
        return true;
    }

    int go(int n) {
        if (n < 0 || n > 200 || now.minute + n > 9800) {
            return -1;
        }
        now.go(n, Way.DRAWN, -1);
        if (n > 0) {
            past.clear();
        }
        return now.minute;
    }

    int ahead(int n, int what, int i) {
        boolean one = what == 0 || what == 1 ? isTub(i) : what == 2 || what == 3 ? isKnight(i) : what == 4;
        if (n < 0 || n > 200 || !one) {
            return -1;
        }
        World then = now.copy().go(n, Way.AS_IT_GOES, -1);
        return switch (what) {
            case 0 -> then.tubs.get(i).heat;
            case 1 -> then.tubs.get(i).litres;
            case 2 -> then.knights.get(i).stood;
            case 3 -> then.knights.get(i).best;
            default -> then.flinchedInSum() - now.flinchedInSum();
        };
    }

    int cools(int tub, int degrees) {
        if (!isTub(tub) || degrees < 0 || degrees > 99) {
            return -1;
        }
        World then = now.copy();
        for (int n = 0; n <= 199; n++) {
            if (then.tubs.get(tub).heat <= 10 * degrees) {
                return n;
            }
            then.minute(Way.AS_IT_GOES, -1);
        }
        return -2;
    }

    int flinches(int knight) {
        if (!isKnight(knight)) {
            return -1;
        }
        World then = now.copy();
        for (int n = 1; n <= 199; n++) {
            int before = then.knights.get(knight).flinched;
            then.minute(Way.AS_IT_GOES, -1);
            if (then.knights.get(knight).flinched != before) {
                return n;
            }
        }
        return -2;
    }

    int order(int k) {
        if (k < 0) {
            return -1;
        }
        List<Integer> numbers = new ArrayList<>();
        for (int i = 0; i < now.knights.size(); i++) {
            numbers.add(i);
        }
        numbers.sort(Comparator.comparing((Integer i) -> -now.knights.get(i).best)
            .thenComparing(i -> -now.knights.get(i).stood).thenComparing(i -> i));
        return k < numbers.size() ? numbers.get(k) : -2;
    }

    int addFor(int tub, int degrees) {
        if (!isTub(tub) || degrees < 0 || degrees > 99) {
            return -1;
        }
        Tub one = now.tubs.get(tub);
        if (one.heat >= 10 * degrees) {
            return 0;
        }
        for (int litres = 1; litres <= Math.min(60, 999 - one.litres); litres++) {
            if ((one.litres * one.heat + litres * 990) / (one.litres + litres) >= 10 * degrees) {
                return litres;
            }
        }
        return -2;
    }

    int coal(int degrees) {
        if (degrees < 0 || degrees > 99) {
            return -1;
        }
        int sum = 0;
        for (int tub = 0; tub < now.tubs.size(); tub++) {
            int litres = addFor(tub, degrees);
            if (litres == -2) {
                return -2;
            }
            sum += litres;
        }
        return sum;
    }

    int together(int tubs, int what) {
        if (tubs < 1 || tubs >= 1 << now.tubs.size() || what < 0 || what > 1) {
            return -1;
        }
        BigInteger above = BigInteger.ZERO;
        BigInteger below = BigInteger.ZERO;
        for (int tub = 0; tub < now.tubs.size(); tub++) {
            if (BigInteger.valueOf(tubs).testBit(tub)) {
                Tub one = now.tubs.get(tub);
                above = above.add(BigInteger.valueOf((long) one.litres * one.heat));
                below = below.add(BigInteger.valueOf(one.litres));
            }
        }
        return (what == 0 ? above : below).divide(above.gcd(below)).intValueExact();
    }

    private int[] matching;
    private int matched;
    private int matchedHeat;

    int match(int what) {
        if (what < 0 || what > 7) {
            return -1;
        }
        matched = -1;
        matchedHeat = 0;
        tryMatch(0, new int[now.knights.size()], 0, 0);
        return what == 6 ? matched : what == 7 ? matchedHeat : what < matching.length ? matching[what] : -2;
    }

    /** All ways, the first by knights first: only a better one takes the place of one before. */
    private void tryMatch(int knight, int[] chosen, int many, int heat) {
        if (knight == chosen.length) {
            if (many > matched || many == matched && heat > matchedHeat) {
                matched = many;
                matchedHeat = heat;
                matching = chosen.clone();
            }
            return;
        }
        for (int tub = 0; tub < now.tubs.size(); tub++) {
            boolean free = true;
            for (int i = 0; i < knight; i++) {
                free &= chosen[i] != tub;
            }
            if (free && easeNow(knight, tub)) {
                chosen[knight] = tub;
                tryMatch(knight + 1, chosen, many + 1, heat + now.tubs.get(tub).heat);
            }
        }
        chosen[knight] = -2;
        tryMatch(knight + 1, chosen, many, heat);
    }

    int game(int tub, int degrees, int what) {
        if (!isTub(tub) || degrees < 0 || degrees > 98 || what < 0 || what > 1) {
            return -1;
        }
        Tub one = now.tubs.get(tub);
        if (one.heat > 10 * degrees) {
            return -2;
        }
        // By litres added: 0 not known yet, 1 who is to add wins, 2 he loses.
        int[] known = new int[1100];
        boolean wins = wins(one, degrees, 0, known);
        if (what == 0) {
            return wins ? 0 : 1;
        }
        for (int litres = 1; litres <= 3; litres++) {
            if (!loses(one, degrees, litres) && !wins(one, degrees, litres, known)) {
                return litres;
            }
        }
        return -2;
    }

    private static boolean loses(Tub tub, int degrees, int added) {
        return tub.litres + added > 999 || (tub.litres * tub.heat + added * 990) / (tub.litres + added) > 10 * degrees;
    }

    private static boolean wins(Tub tub, int degrees, int added, int[] known) {
        if (known[added] == 0) {
            known[added] = 2;
            for (int litres = 1; litres <= 3; litres++) {
                if (!loses(tub, degrees, added + litres) && !wins(tub, degrees, added + litres, known)) {
                    known[added] = 1;
                }
            }
        }
        return known[added] == 1;
    }

    int tells(int tub) {
        if (!isTub(tub)) {
            return -1;
        }
        int atEase = 0;
        int others = 0;
        for (int knight = 0; knight < now.knights.size(); knight++) {
            if (easeNow(knight, tub)) {
                atEase++;
            } else {
                others++;
            }
        }
        return atEase < others ? atEase : others;
    }

    private List<Integer> restsOf(int one, int other) {
        List<Integer> found = new ArrayList<>();
        int[] ranks = {now.knights.get(one).rank, now.knights.get(other).rank};
        for (int first = 0; first < 2; first++) {
            for (int second = 0; second < 2; second++) {
                if (has(ranks[0], first, second) >= has(ranks[0], 1 - first, second)
                    && has(ranks[1], second, first) >= has(ranks[1], 1 - second, first)) {
                    found.add(10 * first + second);
                }
            }
        }
        return found;
    }

    private static int has(int rank, int own, int others) {
        return new int[][] {{rank - 2, rank + 3}, {1, rank / 2}}[own][others];
    }

    int rests(int one, int other) {
        return isKnight(one) && isKnight(other) && one != other ? restsOf(one, other).size() : -1;
    }

    int rest(int one, int other, int k) {
        if (!isKnight(one) || !isKnight(other) || one == other || k < 0) {
            return -1;
        }
        List<Integer> found = restsOf(one, other);
        return k < found.size() ? found.get(k) : -2;
    }

    long steady(int n, int what) {
        if (n < 0 || n > 6 || what < 0 || what > 1) {
            return -1;
        }
        BigInteger above = BigInteger.valueOf(100 - script.flinch).pow(n);
        BigInteger below = BigInteger.valueOf(100).pow(n);
        return (what == 0 ? above : below).divide(above.gcd(below)).longValueExact();
    }

    int see(int minutes, int knight, int stood, boolean atLeast) {
        if (minutes < 1 || minutes > 60 || !isKnight(knight) || stood < 0 || stood > 99 || seen.size() == 24) {
            return -1;
        }
        seen.add(new Seen(minutes, knight, stood, atLeast, -1));
        return seen.size() - 1;
    }

    int strike(int fact) {
        if (fact < 0 || fact >= seen.size() || seen.size() == 24) {
            return -1;
        }
        seen.add(new Seen(0, 0, 0, true, fact));
        return seen.size() - 1;
    }

    boolean known(int n) {
        if (n < -1 || n > seen.size()) {
            return false;
        }
        knownBy = n;
        return true;
    }

    private int knownCount() {
        return knownBy == -1 ? seen.size() : knownBy;
    }

    private boolean isStruck(int fact) {
        for (int i = fact + 1; i < knownCount(); i++) {
            if (seen.get(i).strikes() == fact && !isStruck(i)) {
                return true;
            }
        }
        return false;
    }

    /** Worlds behind 0 .. 60 minutes from the text on, if he bears so much. */
    private List<World> course(int knight, int bears) {
        List<World> course = new ArrayList<>();
        World world = new World();
        world.knights.get(knight).bears = bears;
        for (int i = 0; i <= 60; i++) {
            course.add(world.copy());
            world.minute(Way.AS_IT_GOES, -1);
        }
        return course;
    }

    private boolean agrees(List<World> course) {
        for (int i = 0; i < knownCount(); i++) {
            Seen one = seen.get(i);
            if (one.strikes() == -1 && !isStruck(i)) {
                boolean so = course.get(one.minutes()).knights.get(one.knight()).stood >= one.stood();
                if (so != one.atLeast()) {
                    return false;
                }
            }
        }
        return true;
    }

    int borne(int knight) {
        if (!isKnight(knight)) {
            return -1;
        }
        int bits = 0;
        for (int i = 0; i < 10; i++) {
            bits |= agrees(course(knight, 10 * i)) ? 1 << i : 0;
        }
        return bits;
    }

    int ask(int knight, int what) {
        if (!isKnight(knight) || what < 0 || what > 1) {
            return -1;
        }
        List<List<World>> left = new ArrayList<>();
        for (int i = 0; i < 10; i++) {
            List<World> course = course(knight, 10 * i);
            if (agrees(course)) {
                left.add(course);
            }
        }
        int best = 1;
        int fewest = 99;
        for (int minute = 60; minute >= 1; minute--) {
            int in = 0;
            for (List<World> course : left) {
                in += course.get(minute).knights.get(knight).tub == -2 ? 0 : 1;
            }
            int worst = Math.max(in, left.size() - in);
            if (worst <= fewest) {
                fewest = worst;
                best = minute;
            }
        }
        return what == 0 ? best : fewest;
    }

    int chance(int seed, int n, int knight) {
        if (seed < 0 || n < 1 || n > 99 || !isKnight(knight)) {
            return -1;
        }
        int in = 0;
        long last = seed;
        for (int i = 0; i < 10; i++) {
            World then = now.copy();
            then.last = last;
            then.go(n, Way.DRAWN, -1);
            last = then.last;
            in += then.knights.get(knight).tub == -2 ? 0 : 1;
        }
        return in;
    }

    int tried(int what, int i, int n) {
        if (what < 0 || what > 4 || n < 0 || n > 200 || (what == 2 ? !isKnight(i) : i != 0)) {
            return -1;
        }
        Way[] ways = {Way.ALL_FLINCH, Way.NOBODY_FLINCHES, Way.WITHOUT_SITTINGS, Way.WITHOUT_CANS,
            Way.WITHOUT_COOLING};
        return now.copy().go(n, ways[what], i).stoodInSum();
    }

    int undo() {
        if (past.isEmpty()) {
            return -1;
        }
        now = past.pop();
        return past.size();
    }

    int keep() {
        image = now.copy();
        return now.minute;
    }

    int back() {
        if (image == null) {
            return -1;
        }
        now = image.copy();
        past.clear();
        return now.minute;
    }

    int count(int what) {
        return switch (what) {
            case 0 -> script.knights.size();
            case 1 -> script.tubs.size();
            case 2 -> script.sittings.size();
            case 3 -> script.cans.size();
            case 4 -> script.pipes.size();
            case 5 -> script.knots;
            case 6 -> now.minute;
            case 7 -> now.tubs.stream().mapToInt(tub -> tub.litres).sum();
            case 8 -> (int) now.knights.stream().filter(knight -> knight.tub != -2).count();
            case 9 -> now.stoodInSum();
            case 10 -> now.flinchedInSum();
            case 11 -> now.sent;
            case 12 -> seen.size();
            case 13 -> knownCount();
            case 14 -> past.size();
            default -> -1;
        };
    }
}
