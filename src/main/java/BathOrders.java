import java.util.NoSuchElementException;

/**
 * Orders of the bath, told as a text: knights, tubs, sittings, cans, pipes, odds of flinching and
 * three laws. Minutes go by, and calls ask what is, what comes and what would be best.
 */
public final class BathOrders {
    public static final int NONE = -1;

    private static final int NOT_SO = -2;
    private static final int MOST_BYTES = 700;
    private static final int FED_BYTES = 20;
    private static final int MOST_KNIGHTS = 6;
    private static final int MOST_TUBS = 6;
    private static final int MOST_LITRES = 999;
    private static final int MOST_POURED = 60;
    private static final int MOST_DEGREES = 99;
    private static final int MOST_GOING = 200;
    private static final int MOST_AHEAD = 199;
    private static final int LAST_MINUTE = 9800;
    private static final int CAN_HEAT = 990;
    private static final int MOST_FACTS = 24;
    private static final int MOST_SEEN = 60;
    private static final int MOST_UNDONE = 20;
    private static final int GUESSES = 10;
    private static final int TIMES_DRAWN = 10;
    private static final int COOL = 0;
    private static final int EASE = 1;
    private static final int RISE = 2;
    private static final long ERROR = Long.MIN_VALUE;

    private final byte[] tape = new byte[MOST_BYTES];
    private int taped;
    private final Reader reader = new Reader(tape);
    private Orders orders = new Orders();
    private Orders spare = new Orders();
    private final Baths now = new Baths();
    private final Baths trial = new Baths();
    private final Baths image = new Baths();
    private boolean imageKept;
    private final Minutes minutes = new Minutes();
    private final Past past = new Past();
    private final Facts facts = new Facts();
    private final Guesses guesses = new Guesses();
    private final Matching matching = new Matching();

    public BathOrders() {
        now.begin(orders);
    }

    public int feed(int a, int b, int c, int d, int e) {
        if (taped > MOST_BYTES - FED_BYTES) {
            return NONE;
        }
        putBytes(a);
        putBytes(b);
        putBytes(c);
        putBytes(d);
        putBytes(e);
        return taped;
    }

    private void putBytes(int number) {
        for (int shift = 24; shift >= 0; shift -= 8) {
            if (taped >= 0 && taped < tape.length) {
                tape[taped] = (byte) (number >>> shift);
                taped++;
            }
        }
    }

    public int text(int n) {
        if (n < 0 || n > taped) {
            return NOT_SO;
        }
        taped = 0;
        // The text is read into the spare orders, so that a fault leaves the present ones whole.
        if (!reader.readAll(n, spare)) {
            return NONE;
        }
        Orders old = orders;
        orders = spare;
        spare = old;
        now.begin(orders);
        facts.forget();
        past.forget();
        imageKept = false;
        return orders.lines;
    }

    public int fault(int what) {
        if (what == 0) {
            return reader.fault;
        }
        return what == 1 ? reader.faultPlace : NONE;
    }

    public int named(int what, int letters) {
        if (what == 0) {
            return orders.knights.find(letters);
        }
        return what == 1 ? orders.tubs.find(letters) : NONE;
    }

    public int tub(int tub, int what) throws IndexOutOfBoundsException, NoSuchElementException {
        if (!orders.hasTub(tub)) {
            throw new IndexOutOfBoundsException("no such tub");
        }
        switch (what) {
            case 0:
                return now.litres[tub];
            case 1:
                return now.heats[tub];
            case 2:
                return now.holders[tub];
            default:
                throw new NoSuchElementException("no such what");
        }
    }

    public int knight(int knight, int what) {
        if (!orders.hasKnight(knight)) {
            return NONE;
        }
        switch (what) {
            case 0:
                return now.bears[knight];
            case 1:
                return orders.rankOf(knight);
            case 2:
                return now.places[knight];
            case 3:
                return now.stood[knight];
            case 4:
                return now.bests[knight];
            case 5:
                return now.stays[knight];
            case 6:
                return now.flinched[knight];
            default:
                return NONE;
        }
    }

    public int atEase(int knight, int tub) {
        if (!orders.hasKnight(knight) || !orders.hasTub(tub)) {
            return NONE;
        }
        return orders.easeIn(now, knight, tub, 0) ? 1 : 0;
    }

    public long law(int what, int knight, int tub) {
        if (what < COOL || what > RISE || !orders.hasTub(tub)) {
            return ERROR;
        }
        if (what != COOL && !orders.hasKnight(knight)) {
            return ERROR;
        }
        return orders.worthOf(what, now, knight, tub, 0);
    }

    public int add(int tub, int litres) {
        if (!orders.hasTub(tub) || !isPoured(litres)) {
            return NONE;
        }
        if (!now.hasRoom(tub, litres)) {
            return NOT_SO;
        }
        past.save(now);
        now.pourIn(tub, litres, CAN_HEAT);
        return now.heats[tub];
    }

    public int pour(int from, int to, int litres) {
        if (!orders.hasTub(from) || !orders.hasTub(to) || from == to || !isPoured(litres)) {
            return NONE;
        }
        if (now.litres[from] <= litres || !now.hasRoom(to, litres)) {
            return NOT_SO;
        }
        past.save(now);
        now.pourIn(to, litres, now.heats[from]);
        now.litres[from] -= litres;
        return now.heats[to];
    }

    private static boolean isPoured(int litres) {
        return litres >= 1 && litres <= MOST_POURED;
    }

    public boolean sit(int knight, int tub) {
        if (!orders.hasKnight(knight) || !orders.hasTub(tub) || now.holders[tub] >= 0) {
            return false;
        }
        past.save(now);
        return now.enter(knight, tub);
    }

    public boolean rise(int knight) {
        if (!orders.hasKnight(knight) || now.places[knight] < 0) {
            return false;
        }
        past.save(now);
        now.leave(knight);
        return true;
    }

    public int go(int n) {
        if (n < 0 || n > MOST_GOING || now.minute + n > LAST_MINUTE) {
            return NONE;
        }
        minutes.drawn();
        minutes.passMany(orders, now, n);
        if (n > 0) {
            past.forget();
        }
        return now.minute;
    }

    public int ahead(int n, int what, int i) {
        if (n < 0 || n > MOST_GOING || what < 0 || what > 4) {
            return NONE;
        }
        if (what <= 1 && !orders.hasTub(i) || (what == 2 || what == 3) && !orders.hasKnight(i)) {
            return NONE;
        }
        tryAsItGoes();
        minutes.passMany(orders, trial, n);
        switch (what) {
            case 0:
                return trial.heats[i];
            case 1:
                return trial.litres[i];
            case 2:
                return trial.stood[i];
            case 3:
                return trial.bests[i];
            default:
                return sumOf(trial.flinched) - sumOf(now.flinched);
        }
    }

    private void tryAsItGoes() {
        trial.become(now);
        minutes.asItGoes(orders);
    }

    private static int sumOf(int[] numbers) {
        int sum = 0;
        for (int i = 0; i < numbers.length; i++) {
            sum += numbers[i];
        }
        return sum;
    }

    public int cools(int tub, int degrees) {
        if (!orders.hasTub(tub) || !isDegrees(degrees)) {
            return NONE;
        }
        tryAsItGoes();
        for (int gone = 0; gone <= MOST_AHEAD; gone++) {
            if (trial.heats[tub] <= 10 * degrees) {
                return gone;
            }
            minutes.pass(orders, trial);
        }
        return NOT_SO;
    }

    private static boolean isDegrees(int degrees) {
        return degrees >= 0 && degrees <= MOST_DEGREES;
    }

    public int flinches(int knight) {
        if (!orders.hasKnight(knight)) {
            return NONE;
        }
        tryAsItGoes();
        for (int gone = 1; gone <= MOST_AHEAD; gone++) {
            minutes.pass(orders, trial);
            if (trial.flinched[knight] > now.flinched[knight]) {
                return gone;
            }
        }
        return NOT_SO;
    }

    public int order(int k) {
        if (k < 0) {
            return NONE;
        }
        for (int one = 0; one < orders.knights.size && one < MOST_KNIGHTS; one++) {
            int ahead = 0;
            for (int other = 0; other < orders.knights.size && other < MOST_KNIGHTS; other++) {
                if (standsAhead(other, one)) {
                    ahead++;
                }
            }
            if (ahead == k) {
                return one;
            }
        }
        return NOT_SO;
    }

    private boolean standsAhead(int one, int other) {
        if (now.bests[one] != now.bests[other]) {
            return now.bests[one] > now.bests[other];
        }
        if (now.stood[one] != now.stood[other]) {
            return now.stood[one] > now.stood[other];
        }
        return one < other;
    }

    public int addFor(int tub, int degrees) {
        return orders.hasTub(tub) && isDegrees(degrees) ? fewestFor(tub, degrees) : NONE;
    }

    private int fewestFor(int tub, int degrees) {
        if (now.heats[tub] >= 10 * degrees) {
            return 0;
        }
        for (int litres = 1; litres <= MOST_POURED; litres++) {
            if (!now.hasRoom(tub, litres)) {
                return NOT_SO;
            }
            if (now.mixedHeat(tub, litres, CAN_HEAT) >= 10 * degrees) {
                return litres;
            }
        }
        return NOT_SO;
    }

    public int coal(int degrees) {
        if (!isDegrees(degrees)) {
            return NONE;
        }
        int sum = 0;
        for (int tub = 0; tub < orders.tubs.size && tub < MOST_TUBS; tub++) {
            int litres = fewestFor(tub, degrees);
            if (litres < 0) {
                return NOT_SO;
            }
            sum += litres;
        }
        return sum;
    }

    public int together(int tubs, int what) {
        if (tubs < 1 || tubs >= 1 << orders.tubs.size || what < 0 || what > 1) {
            return NONE;
        }
        int above = 0;
        int below = 0;
        for (int tub = 0; tub < orders.tubs.size && tub < MOST_TUBS; tub++) {
            if ((tubs >> tub & 1) == 1) {
                above += now.litres[tub] * now.heats[tub];
                below += now.litres[tub];
            }
        }
        return (int) leastTerm(above, below, what);
    }

    /** The number above (what 0) or below (what 1) of a fraction in least terms. */
    private static long leastTerm(long above, long below, int what) {
        long big = above;
        long small = below;
        for (int i = 0; i < 200 && small != 0; i++) {
            long left = big % small;
            big = small;
            small = left;
        }
        if (big == 0) {
            return NONE;
        }
        return (what == 0 ? above : below) / big;
    }

    public int match(int what) {
        if (what < 0 || what > 7) {
            return NONE;
        }
        matching.find(orders, now);
        if (what < MOST_KNIGHTS) {
            return matching.chosen[what];
        }
        return what == 6 ? matching.matched : matching.heat;
    }

    public int game(int tub, int degrees, int what) {
        if (!orders.hasTub(tub) || degrees < 0 || degrees >= MOST_DEGREES || what < 0 || what > 1) {
            return NONE;
        }
        if (now.heats[tub] > 10 * degrees) {
            return NOT_SO;
        }
        int winning = winningLitres(tub, 10 * degrees);
        if (what == 0) {
            return winning > 0 ? 0 : 1;
        }
        return winning > 0 ? winning : NOT_SO;
    }

    /** The fewest litres by which who is to add first wins, 0 if he loses. */
    private int winningLitres(int tub, int limit) {
        // What wins behind one, two, three litres more; 1 there also stands for what loses at once.
        int behindOne = 1;
        int behindTwo = 1;
        int behindThree = 1;
        int winning = 0;
        for (int added = MOST_LITRES - now.litres[tub]; added >= 0; added--) {
            winning = behindOne == 0 ? 1 : behindTwo == 0 ? 2 : behindThree == 0 ? 3 : 0;
            behindThree = behindTwo;
            behindTwo = behindOne;
            behindOne = now.mixedHeat(tub, added, CAN_HEAT) > limit ? 1 : winning;
        }
        return winning;
    }

    public int tells(int tub) {
        if (!orders.hasTub(tub)) {
            return NONE;
        }
        int atEase = 0;
        for (int knight = 0; knight < orders.knights.size; knight++) {
            if (orders.easeIn(now, knight, tub, 0)) {
                atEase++;
            }
        }
        return Math.min(atEase, orders.knights.size - atEase);
    }

    public int rests(int one, int other) {
        return areTwo(one, other) ? restsUpTo(one, other, 4) : NONE;
    }

    private boolean areTwo(int one, int other) {
        return orders.hasKnight(one) && orders.hasKnight(other) && one != other;
    }

    /** How many of the first so many pairs of stays and rises are rests. */
    private int restsUpTo(int one, int other, int pairs) {
        int rests = 0;
        for (int pair = 0; pair < pairs; pair++) {
            if (isRest(one, other, pair)) {
                rests++;
            }
        }
        return rests;
    }

    private boolean isRest(int one, int other, int pair) {
        int first = pair / 2;
        int second = pair % 2;
        int rank = orders.rankOf(one);
        int otherRank = orders.rankOf(other);
        return gain(rank, first, second) >= gain(rank, 1 - first, second)
            && gain(otherRank, second, first) >= gain(otherRank, 1 - second, first);
    }

    private static int gain(int rank, int own, int others) {
        if (own == 0) {
            return others == 0 ? rank - 2 : rank + 3;
        }
        return others == 0 ? 1 : rank / 2;
    }

    public int rest(int one, int other, int k) {
        if (!areTwo(one, other) || k < 0) {
            return NONE;
        }
        for (int pair = 0; pair < 4; pair++) {
            if (isRest(one, other, pair) && restsUpTo(one, other, pair) == k) {
                return 10 * (pair / 2) + pair % 2;
            }
        }
        return NOT_SO;
    }

    public long steady(int n, int what) {
        if (n < 0 || n > MOST_KNIGHTS || what < 0 || what > 1) {
            return NONE;
        }
        long above = 1;
        long below = 1;
        for (int i = 0; i < n; i++) {
            above *= 100 - orders.flinch;
            below *= 100;
        }
        return leastTerm(above, below, what);
    }

    public int see(int minutes, int knight, int stood, boolean atLeast) {
        if (minutes < 1 || minutes > MOST_SEEN || !orders.hasKnight(knight)) {
            return NONE;
        }
        if (stood < 0 || stood > 99) {
            return NONE;
        }
        return facts.record(minutes, knight, stood, atLeast);
    }

    public int strike(int fact) {
        return facts.recordStrike(fact);
    }

    public boolean known(int n) {
        if (n < NONE || n > facts.size) {
            return false;
        }
        facts.knownBy = n;
        return true;
    }

    public int borne(int knight) {
        if (!orders.hasKnight(knight)) {
            return NONE;
        }
        facts.sift();
        minutes.asItGoes(orders);
        return guesses.find(orders, minutes, facts, knight, facts.lastMinute());
    }

    public int ask(int knight, int what) {
        if (!orders.hasKnight(knight) || what < 0 || what > 1) {
            return NONE;
        }
        facts.sift();
        minutes.asItGoes(orders);
        guesses.find(orders, minutes, facts, knight, MOST_SEEN);
        guesses.findQuestion();
        return what == 0 ? guesses.bestMinute : guesses.left;
    }

    public int chance(int seed, int n, int knight) {
        if (seed < 0 || n < 1 || n > 99 || !orders.hasKnight(knight)) {
            return NONE;
        }
        minutes.drawn();
        long number = seed;
        int inTub = 0;
        for (int i = 0; i < TIMES_DRAWN; i++) {
            trial.become(now);
            trial.number = number;
            minutes.passMany(orders, trial, n);
            number = trial.number;
            if (trial.places[knight] >= 0) {
                inTub++;
            }
        }
        return inTub;
    }

    public int tried(int what, int i, int n) {
        if (what < 0 || what > 4 || n < 0 || n > MOST_GOING) {
            return NONE;
        }
        if (what == 2 ? !orders.hasKnight(i) : i != 0) {
            return NONE;
        }
        tryAsItGoes();
        minutes.otherwise(what, i);
        minutes.passMany(orders, trial, n);
        return sumOf(trial.stood);
    }

    public int undo() {
        return past.restore(now) ? past.size : NONE;
    }

    public int keep() {
        image.become(now);
        imageKept = true;
        return now.minute;
    }

    public int back() {
        if (!imageKept) {
            return NONE;
        }
        now.become(image);
        past.forget();
        return now.minute;
    }

    public int count(int what) {
        switch (what) {
            case 0:
                return orders.knights.size;
            case 1:
                return orders.tubs.size;
            case 2:
                return orders.sittings.size;
            case 3:
                return orders.cans.size;
            case 4:
                return orders.pipes.size;
            case 5:
                return orders.laws.knots;
            case 6:
                return now.minute;
            case 7:
                return sumOf(now.litres);
            case 8:
                return now.bathers();
            case 9:
                return sumOf(now.stood);
            case 10:
                return sumOf(now.flinched);
            case 11:
                return now.sentOff;
            case 12:
                return facts.size;
            case 13:
                return facts.countKnown();
            case 14:
                return past.size;
            default:
                return NONE;
        }
    }

    /** Lines of one kind: three numbers each, the name of a knight or a tub as the first. */
    static final class Rows {
        final int most;
        final int[] cells;
        int size;

        Rows(int most) {
            this.most = most < 0 ? 0 : most;
            this.cells = new int[3 * this.most];
        }

        int cell(int row, int column) {
            int at = 3 * row + column;
            return at >= 0 && at < cells.length ? cells[at] : 0;
        }

        /** Sets a number of the row that is being told, which isn't counted yet. */
        void set(int column, int number) {
            int at = 3 * size + column;
            if (at >= 0 && at < cells.length) {
                cells[at] = number;
            }
        }

        boolean isFull() {
            return size >= most;
        }

        boolean close() {
            size++;
            return true;
        }

        int find(int name) {
            for (int row = 0; row < size; row++) {
                if (cell(row, 0) == name) {
                    return row;
                }
            }
            return NONE;
        }
    }

    /** The laws as knots behind one another, each sign behind what it joins. */
    static final class Laws {
        static final int MOST_KNOTS = 64;
        static final long LIMIT = 1000000000000L;

        final int[] signs = new int[MOST_KNOTS];
        final int[] numbers = new int[MOST_KNOTS];
        final int[] from = new int[3];
        final int[] to = new int[3];
        final long[] names = new long[7];
        final long[] stack = new long[MOST_KNOTS];
        int knots;
        int size;

        void forget() {
            knots = 0;
            size = 0;
            for (int rule = COOL; rule <= RISE; rule++) {
                from[rule] = 0;
                to[rule] = 0;
            }
        }

        boolean isTold(int rule) {
            return rule >= COOL && rule <= RISE && to[rule] > from[rule];
        }

        void put(int sign, int number) {
            if (size >= 0 && size < MOST_KNOTS) {
                signs[size] = sign;
                numbers[size] = number;
                size++;
            }
        }

        /** What was put since the law before is the law of this rule. */
        void close(int rule, int start) {
            if (rule >= COOL && rule <= RISE) {
                from[rule] = start;
                to[rule] = size;
            }
        }

        long worth(int rule) {
            if (!isTold(rule)) {
                return ERROR;
            }
            int top = 0;
            for (int i = from[rule]; i < to[rule] && i < MOST_KNOTS; i++) {
                int sign = signs[i];
                if (sign >= Tokens.HEAT && sign <= Tokens.NUMBER && top < MOST_KNOTS) {
                    stack[top] = sign == Tokens.NUMBER ? numbers[i] : names[sign - Tokens.HEAT];
                    top++;
                } else if (sign == Tokens.NOT && top >= 1) {
                    stack[top - 1] = stack[top - 1] == 0 ? 1 : 0;
                } else if (top >= 2) {
                    long value = joined(sign, stack[top - 2], stack[top - 1]);
                    if (value > LIMIT || value < -LIMIT) {
                        return ERROR;
                    }
                    top--;
                    stack[top - 1] = value;
                } else {
                    return ERROR;
                }
            }
            return top == 1 ? stack[0] : ERROR;
        }

        private static long joined(int sign, long left, long right) {
            switch (sign) {
                case Tokens.OR:
                    return left != 0 || right != 0 ? 1 : 0;
                case Tokens.AND:
                    return left != 0 && right != 0 ? 1 : 0;
                case Tokens.LESS:
                    return left < right ? 1 : 0;
                case Tokens.LESS_OR_EQUAL:
                    return left <= right ? 1 : 0;
                case Tokens.EQUAL:
                    return left == right ? 1 : 0;
                case Tokens.UNEQUAL:
                    return left != right ? 1 : 0;
                case Tokens.MORE_OR_EQUAL:
                    return left >= right ? 1 : 0;
                case Tokens.MORE:
                    return left > right ? 1 : 0;
                case Tokens.PLUS:
                    return left + right;
                case Tokens.MINUS:
                    return left - right;
                case Tokens.TIMES:
                    if (left == 0) {
                        return 0;
                    }
                    // Looked at ahead: two values within the limit may leave the longs by this.
                    long most = LIMIT / (left < 0 ? -left : left);
                    return right > most || right < -most ? ERROR : left * right;
                case Tokens.BY:
                    return right == 0 ? ERROR : left / right;
                default:
                    return ERROR;
            }
        }
    }

    /** What a text tells. */
    static final class Orders {
        final Rows knights = new Rows(MOST_KNIGHTS);
        final Rows tubs = new Rows(MOST_TUBS);
        final Rows sittings = new Rows(12);
        final Rows cans = new Rows(10);
        final Rows pipes = new Rows(8);
        final Laws laws = new Laws();
        int flinch = 100;
        boolean flinchTold;
        int seed;
        boolean seedTold;
        int lines;

        void forget() {
            knights.size = 0;
            tubs.size = 0;
            sittings.size = 0;
            cans.size = 0;
            pipes.size = 0;
            laws.forget();
            flinch = 100;
            flinchTold = false;
            seed = 0;
            seedTold = false;
            lines = 0;
        }

        boolean hasKnight(int knight) {
            return knight >= 0 && knight < knights.size && knight < MOST_KNIGHTS;
        }

        boolean hasTub(int tub) {
            return tub >= 0 && tub < tubs.size && tub < MOST_TUBS;
        }

        int rankOf(int knight) {
            return knights.cell(knight, 2);
        }

        boolean easeIn(Baths baths, int knight, int tub, int stay) {
            if (!hasKnight(knight) || !hasTub(tub)) {
                return false;
            }
            long worth = worthOf(EASE, baths, knight, tub, stay);
            return worth == ERROR ? baths.heats[tub] <= 10 * baths.bears[knight] : worth != 0;
        }

        /** The value of a law; the law of cooling knows no knight. */
        long worthOf(int rule, Baths baths, int knight, int tub, int stay) {
            if (!laws.isTold(rule) || !hasTub(tub)) {
                return ERROR;
            }
            boolean looked = rule != COOL && hasKnight(knight);
            long[] names = laws.names;
            names[0] = baths.heats[tub] / 10;
            names[1] = looked ? baths.bears[knight] : 0;
            names[2] = looked ? rankOf(knight) : 0;
            names[3] = looked ? baths.stood[knight] : 0;
            names[4] = baths.litres[tub];
            names[5] = looked ? stay : 0;
            names[6] = baths.minute;
            return laws.worth(rule);
        }
    }

    /** The tokens of the tape's first bytes, one at a time. */
    static final class Tokens {
        static final String WORDS =
            "knight tub sit can pipe flinch seed law cool ease rise or and not heat bears rank stood litres long minute";
        static final int NAME = -3;
        static final int BAD = -2;
        static final int END = -1;
        static final int KNIGHT = 0;
        static final int TUB = 1;
        static final int SIT = 2;
        static final int CAN = 3;
        static final int PIPE = 4;
        static final int FLINCH = 5;
        static final int SEED = 6;
        static final int LAW = 7;
        static final int FIRST_RULE = 8;
        static final int OR = 11;
        static final int AND = 12;
        static final int NOT = 13;
        static final int HEAT = 14;
        static final int NUMBER = 21;
        static final int SEMICOLON = 22;
        static final int OPEN = 23;
        static final int CLOSE = 24;
        static final int LESS = 25;
        static final int LESS_OR_EQUAL = 26;
        static final int EQUAL = 27;
        static final int UNEQUAL = 28;
        static final int MORE_OR_EQUAL = 29;
        static final int MORE = 30;
        static final int PLUS = 31;
        static final int MINUS = 32;
        static final int TIMES = 33;
        static final int BY = 34;
        static final int MOST_LETTERS = 6;
        static final int HUGE = 1000000;

        final byte[] bytes;
        final int[] words = new int[NUMBER];
        int end;
        int next;
        int kind;
        int place;
        int value;

        Tokens(byte[] bytes) {
            this.bytes = bytes;
            int word = 0;
            int letters = 0;
            for (int i = 0; i < WORDS.length(); i++) {
                char sign = WORDS.charAt(i);
                if (sign == ' ') {
                    word++;
                    letters = 0;
                } else if (word < words.length) {
                    words[word] |= placed(sign, letters);
                    letters++;
                }
            }
        }

        /** A letter as five bits at its place among six; a seventh one has none. */
        private static int placed(int letter, int ahead) {
            return ahead < MOST_LETTERS ? letter - 'a' + 1 << 5 * (MOST_LETTERS - 1 - ahead) : 0;
        }

        void start(int length) {
            end = length;
            next = 0;
            advance();
        }

        void advance() {
            for (int i = next; i < end && isBlank(byteAt(i)); i++) {
                next = i + 1;
            }
            place = next;
            value = 0;
            int first = byteAt(next);
            if (first < 0) {
                kind = END;
            } else if (isLetter(first)) {
                takeWord();
            } else if (isDigit(first)) {
                takeNumber();
            } else {
                next++;
                kind = signOf(first, byteAt(next));
                if (kind == LESS_OR_EQUAL || kind == UNEQUAL || kind == MORE_OR_EQUAL) {
                    next++;
                }
            }
        }

        private int byteAt(int at) {
            return at >= 0 && at < end && at < bytes.length ? bytes[at] & 255 : END;
        }

        private static boolean isBlank(int sign) {
            return sign == 10 || sign == 32;
        }

        private static boolean isLetter(int sign) {
            return sign >= 'a' && sign <= 'z';
        }

        private static boolean isDigit(int sign) {
            return sign >= '0' && sign <= '9';
        }

        private void takeWord() {
            int letters = 0;
            for (int i = next; i < end && isLetter(byteAt(i)); i++) {
                value |= placed(byteAt(i), letters);
                letters++;
            }
            next += letters;
            kind = letters > MOST_LETTERS ? BAD : kindOf(value);
        }

        private int kindOf(int letters) {
            for (int word = 0; word < words.length; word++) {
                if (words[word] == letters) {
                    return word;
                }
            }
            return NAME;
        }

        private void takeNumber() {
            int digits = 0;
            for (int i = next; i < end && isDigit(byteAt(i)); i++) {
                value = Math.min(10 * value + byteAt(i) - '0', HUGE);
                digits++;
            }
            next += digits;
            kind = NUMBER;
        }

        private static int signOf(int sign, int behind) {
            switch (sign) {
                case ';':
                    return SEMICOLON;
                case '(':
                    return OPEN;
                case ')':
                    return CLOSE;
                case '+':
                    return PLUS;
                case '-':
                    return MINUS;
                case '*':
                    return TIMES;
                case '/':
                    return BY;
                case '=':
                    return EQUAL;
                case '<':
                    return behind == '=' ? LESS_OR_EQUAL : behind == '>' ? UNEQUAL : LESS;
                case '>':
                    return behind == '=' ? MORE_OR_EQUAL : MORE;
                default:
                    return BAD;
            }
        }
    }

    /** Reads a text into orders, up to its first fault. */
    static final class Reader {
        static final int STRAY = 1;
        static final int TOO_MUCH = 2;
        static final int TOLD_ALREADY = 3;
        static final int NOT_TOLD = 4;
        static final int TO_ITSELF = 5;
        static final int MOST_OPEN = 8;
        static final int MOST_IN_LAW = 9999;
        static final int COMPARES = 4;

        private final Tokens tokens;
        private final int[] pending = new int[Laws.MOST_KNOTS + MOST_OPEN];
        private final boolean[] compared = new boolean[MOST_OPEN + 1];
        private int waiting;
        private int open;
        private boolean operandDue;
        private boolean notMayStand;
        int fault;
        int faultPlace = NONE;

        Reader(byte[] bytes) {
            tokens = new Tokens(bytes);
        }

        boolean readAll(int length, Orders into) {
            fault = 0;
            faultPlace = NONE;
            into.forget();
            tokens.start(length);
            for (int i = 0; i < length && tokens.kind != Tokens.END; i++) {
                if (!readLine(into)) {
                    return false;
                }
                into.lines++;
            }
            return true;
        }

        private boolean fail(int kind) {
            fault = kind;
            faultPlace = tokens.place;
            return false;
        }

        private boolean readLine(Orders into) {
            boolean sound;
            switch (tokens.kind) {
                case Tokens.KNIGHT:
                    sound = readKnight(into.knights);
                    break;
                case Tokens.TUB:
                    sound = readTub(into.tubs);
                    break;
                case Tokens.SIT:
                    sound = readSitting(into, into.sittings);
                    break;
                case Tokens.CAN:
                    sound = readCan(into, into.cans);
                    break;
                case Tokens.PIPE:
                    sound = readPipe(into, into.pipes);
                    break;
                case Tokens.FLINCH:
                    sound = readFlinch(into);
                    break;
                case Tokens.SEED:
                    sound = readSeed(into);
                    break;
                case Tokens.LAW:
                    sound = readLaw(into.laws);
                    break;
                default:
                    return fail(STRAY);
            }
            if (!sound) {
                return false;
            }
            if (tokens.kind != Tokens.SEMICOLON) {
                return fail(STRAY);
            }
            tokens.advance();
            return true;
        }

        private boolean readKnight(Rows rows) {
            return openRow(rows) && readNewName(rows) && readCell(rows, 1, 0, 99)
                && readCell(rows, 2, 0, 9) && rows.close();
        }

        private boolean readTub(Rows rows) {
            return openRow(rows) && readNewName(rows) && readCell(rows, 1, 1, 99)
                && readCell(rows, 2, 0, MOST_DEGREES) && rows.close();
        }

        private boolean readSitting(Orders into, Rows rows) {
            return openRow(rows) && readToldName(into.knights, rows, 0)
                && readToldName(into.tubs, rows, 1) && readCell(rows, 2, 0, 99) && rows.close();
        }

        private boolean readCan(Orders into, Rows rows) {
            return openRow(rows) && readToldName(into.tubs, rows, 0) && readCell(rows, 1, 1, 9)
                && readCell(rows, 2, 0, 99) && rows.close();
        }

        private boolean readPipe(Orders into, Rows rows) {
            if (!openRow(rows) || !readToldName(into.tubs, rows, 0)) {
                return false;
            }
            if (tokens.kind == Tokens.NAME && into.tubs.find(tokens.value) == rows.cell(rows.size, 0)) {
                return fail(TO_ITSELF);
            }
            return readToldName(into.tubs, rows, 1) && readCell(rows, 2, 1, 9) && rows.close();
        }

        private boolean openRow(Rows rows) {
            if (rows.isFull()) {
                return fail(TOO_MUCH);
            }
            tokens.advance();
            return true;
        }

        private boolean readNewName(Rows rows) {
            if (tokens.kind != Tokens.NAME) {
                return fail(STRAY);
            }
            if (rows.find(tokens.value) >= 0) {
                return fail(TOLD_ALREADY);
            }
            rows.set(0, tokens.value);
            tokens.advance();
            return true;
        }

        private boolean readToldName(Rows names, Rows rows, int column) {
            if (tokens.kind != Tokens.NAME) {
                return fail(STRAY);
            }
            int row = names.find(tokens.value);
            if (row < 0) {
                return fail(NOT_TOLD);
            }
            rows.set(column, row);
            tokens.advance();
            return true;
        }

        private boolean readCell(Rows rows, int column, int least, int most) {
            if (!isNumber(least, most)) {
                return false;
            }
            rows.set(column, tokens.value);
            tokens.advance();
            return true;
        }

        private boolean isNumber(int least, int most) {
            if (tokens.kind != Tokens.NUMBER) {
                return fail(STRAY);
            }
            return tokens.value >= least && tokens.value <= most || fail(TOO_MUCH);
        }

        private boolean readFlinch(Orders into) {
            if (into.flinchTold) {
                return fail(TOLD_ALREADY);
            }
            tokens.advance();
            if (!isNumber(0, 100)) {
                return false;
            }
            into.flinchTold = true;
            into.flinch = tokens.value;
            tokens.advance();
            return true;
        }

        private boolean readSeed(Orders into) {
            if (into.seedTold) {
                return fail(TOLD_ALREADY);
            }
            tokens.advance();
            if (!isNumber(0, 99999)) {
                return false;
            }
            into.seedTold = true;
            into.seed = tokens.value;
            tokens.advance();
            return true;
        }

        private boolean readLaw(Laws laws) {
            tokens.advance();
            int rule = tokens.kind - Tokens.FIRST_RULE;
            if (rule < COOL || rule > RISE) {
                return fail(STRAY);
            }
            if (laws.isTold(rule)) {
                return fail(TOLD_ALREADY);
            }
            int start = laws.size;
            waiting = 0;
            open = 0;
            compared[0] = false;
            operandDue = true;
            notMayStand = true;
            tokens.advance();
            for (int i = 0; i < MOST_BYTES; i++) {
                if (!operandDue && open == 0 && tokens.kind == Tokens.SEMICOLON) {
                    unload(laws, 0);
                    laws.close(rule, start);
                    return true;
                }
                if (operandDue ? !takeOperand(laws) : !takeSign(laws)) {
                    return false;
                }
                tokens.advance();
            }
            return fail(STRAY);
        }

        private boolean takeOperand(Laws laws) {
            int kind = tokens.kind;
            if (kind == Tokens.OPEN) {
                return takeOpening();
            }
            if (kind == Tokens.NOT && notMayStand) {
                return countKnot(laws) && await(kind);
            }
            if (kind < Tokens.HEAT || kind > Tokens.NUMBER) {
                return fail(STRAY);
            }
            if (tokens.value > MOST_IN_LAW && kind == Tokens.NUMBER) {
                return fail(TOO_MUCH);
            }
            if (!countKnot(laws)) {
                return false;
            }
            laws.put(kind, tokens.value);
            operandDue = false;
            return true;
        }

        private boolean takeOpening() {
            if (open < 0 || open >= MOST_OPEN) {
                return fail(TOO_MUCH);
            }
            open++;
            compared[open] = false;
            notMayStand = true;
            return await(Tokens.OPEN);
        }

        private boolean takeSign(Laws laws) {
            int kind = tokens.kind;
            if (kind == Tokens.CLOSE && open > 0) {
                unload(laws, 0);
                waiting--;
                open--;
                return true;
            }
            int binds = binding(kind);
            boolean compares = binds == COMPARES;
            if (binds == 0 || kind == Tokens.NOT || open < 0 || open > MOST_OPEN) {
                return fail(STRAY);
            }
            if (compares && compared[open]) {
                return fail(STRAY);
            }
            if (!countKnot(laws)) {
                return false;
            }
            unload(laws, binds);
            // One comparison may stand between two of 'and', 'or', brackets and the ends.
            compared[open] = compares || binds > COMPARES && compared[open];
            operandDue = true;
            notMayStand = binds < COMPARES;
            return await(kind);
        }

        private boolean countKnot(Laws laws) {
            if (laws.knots >= Laws.MOST_KNOTS) {
                return fail(TOO_MUCH);
            }
            laws.knots++;
            return true;
        }

        private boolean await(int sign) {
            if (waiting < 0 || waiting >= pending.length) {
                return fail(TOO_MUCH);
            }
            pending[waiting] = sign;
            waiting++;
            return true;
        }

        /** Puts the waiting signs that bind at least so much, down to an open bracket. */
        private void unload(Laws laws, int least) {
            for (int i = waiting - 1; i >= 0 && i < pending.length; i--) {
                int sign = pending[i];
                if (sign == Tokens.OPEN || binding(sign) < least) {
                    return;
                }
                laws.put(sign, 0);
                waiting = i;
            }
        }

        private static int binding(int sign) {
            switch (sign) {
                case Tokens.OR:
                    return 1;
                case Tokens.AND:
                    return 2;
                case Tokens.NOT:
                    return 3;
                case Tokens.LESS:
                case Tokens.LESS_OR_EQUAL:
                case Tokens.EQUAL:
                case Tokens.UNEQUAL:
                case Tokens.MORE_OR_EQUAL:
                case Tokens.MORE:
                    return COMPARES;
                case Tokens.PLUS:
                case Tokens.MINUS:
                    return 5;
                case Tokens.TIMES:
                case Tokens.BY:
                    return 6;
                default:
                    return 0;
            }
        }
    }

    /** What changes as minutes go by: the tubs, the knights, the minute and the last number. */
    static final class Baths {
        final int[] litres = new int[MOST_TUBS];
        final int[] heats = new int[MOST_TUBS];
        final int[] holders = new int[MOST_TUBS];
        final int[] bears = new int[MOST_KNIGHTS];
        final int[] places = new int[MOST_KNIGHTS];
        final int[] stood = new int[MOST_KNIGHTS];
        final int[] bests = new int[MOST_KNIGHTS];
        final int[] stays = new int[MOST_KNIGHTS];
        final int[] flinched = new int[MOST_KNIGHTS];
        int minute;
        int sentOff;
        long number;

        void begin(Orders orders) {
            for (int tub = 0; tub < MOST_TUBS; tub++) {
                boolean told = orders.hasTub(tub);
                litres[tub] = told ? orders.tubs.cell(tub, 1) : 0;
                heats[tub] = told ? 10 * orders.tubs.cell(tub, 2) : 0;
                holders[tub] = NOT_SO;
            }
            for (int knight = 0; knight < MOST_KNIGHTS; knight++) {
                bears[knight] = orders.hasKnight(knight) ? orders.knights.cell(knight, 1) : 0;
                places[knight] = NOT_SO;
                stood[knight] = 0;
                bests[knight] = 0;
                stays[knight] = 0;
                flinched[knight] = 0;
            }
            minute = 0;
            sentOff = 0;
            number = orders.seed;
        }

        void become(Baths other) {
            System.arraycopy(other.litres, 0, litres, 0, MOST_TUBS);
            System.arraycopy(other.heats, 0, heats, 0, MOST_TUBS);
            System.arraycopy(other.holders, 0, holders, 0, MOST_TUBS);
            System.arraycopy(other.bears, 0, bears, 0, MOST_KNIGHTS);
            System.arraycopy(other.places, 0, places, 0, MOST_KNIGHTS);
            System.arraycopy(other.stood, 0, stood, 0, MOST_KNIGHTS);
            System.arraycopy(other.bests, 0, bests, 0, MOST_KNIGHTS);
            System.arraycopy(other.stays, 0, stays, 0, MOST_KNIGHTS);
            System.arraycopy(other.flinched, 0, flinched, 0, MOST_KNIGHTS);
            minute = other.minute;
            sentOff = other.sentOff;
            number = other.number;
        }

        boolean hasRoom(int tub, int more) {
            return isTub(tub) && litres[tub] + more <= MOST_LITRES;
        }

        private static boolean isTub(int tub) {
            return tub >= 0 && tub < MOST_TUBS;
        }

        private static boolean isKnight(int knight) {
            return knight >= 0 && knight < MOST_KNIGHTS;
        }

        int mixedHeat(int tub, int more, int heat) {
            if (!isTub(tub) || litres[tub] + more <= 0) {
                return 0;
            }
            return (litres[tub] * heats[tub] + more * heat) / (litres[tub] + more);
        }

        void pourIn(int tub, int more, int heat) {
            if (isTub(tub)) {
                heats[tub] = mixedHeat(tub, more, heat);
                litres[tub] += more;
            }
        }

        /** He gets in, out of where he is, if nobody is in it: neither another one nor he. */
        boolean enter(int knight, int tub) {
            if (!isKnight(knight) || !isTub(tub) || holders[tub] >= 0) {
                return false;
            }
            leave(knight);
            holders[tub] = knight;
            places[knight] = tub;
            return true;
        }

        void leave(int knight) {
            if (!isKnight(knight)) {
                return;
            }
            int tub = places[knight];
            if (isTub(tub)) {
                holders[tub] = NOT_SO;
            }
            places[knight] = NOT_SO;
            stays[knight] = 0;
        }

        int bathers() {
            int bathers = 0;
            for (int knight = 0; knight < MOST_KNIGHTS; knight++) {
                if (places[knight] >= 0) {
                    bathers++;
                }
            }
            return bathers;
        }

        int draw() {
            number = number * 1103515245L + 12345L & 0x7fffffffL;
            return (int) (number / 65536);
        }
    }

    /** Lets minutes go by, as they are told or otherwise. */
    static final class Minutes {
        static final int BY_NUMBERS = 0;
        static final int ALWAYS = 1;
        static final int NEVER = 2;
        static final int MOST_STOOD = 9999;

        private int flinching;
        private int absent = NONE;
        private boolean cansCome = true;
        private boolean tubsCool = true;

        void drawn() {
            flinching = BY_NUMBERS;
            absent = NONE;
            cansCome = true;
            tubsCool = true;
        }

        void asItGoes(Orders orders) {
            drawn();
            flinching = orders.flinch >= 50 ? ALWAYS : NEVER;
        }

        /** As it goes but for one thing. */
        void otherwise(int what, int knight) {
            if (what == 0) {
                flinching = ALWAYS;
            } else if (what == 1) {
                flinching = NEVER;
            } else if (what == 2) {
                absent = knight;
            } else if (what == 3) {
                cansCome = false;
            } else {
                tubsCool = false;
            }
        }

        void passMany(Orders orders, Baths baths, int many) {
            for (int i = 0; i < many; i++) {
                pass(orders, baths);
            }
        }

        void pass(Orders orders, Baths baths) {
            if (cansCome) {
                bringCans(orders.cans, baths);
            }
            runPipes(orders.pipes, baths);
            if (tubsCool) {
                coolTubs(orders, baths);
            }
            seatKnights(orders.sittings, baths);
            for (int knight = 0; knight < orders.knights.size && knight < MOST_KNIGHTS; knight++) {
                if (baths.places[knight] >= 0) {
                    stand(orders, baths, knight);
                }
            }
            baths.minute++;
        }

        private static void bringCans(Rows cans, Baths baths) {
            for (int can = 0; can < cans.size; can++) {
                int tub = cans.cell(can, 0);
                int litres = cans.cell(can, 1);
                if (cans.cell(can, 2) == baths.minute && baths.hasRoom(tub, litres)) {
                    baths.pourIn(tub, litres, CAN_HEAT);
                }
            }
        }

        private static void runPipes(Rows pipes, Baths baths) {
            for (int pipe = 0; pipe < pipes.size; pipe++) {
                int from = pipes.cell(pipe, 0);
                int to = pipes.cell(pipe, 1);
                if (from < 0 || from >= MOST_TUBS) {
                    continue;
                }
                int litres = Math.min(pipes.cell(pipe, 2), baths.litres[from] - 1);
                if (litres > 0 && baths.hasRoom(to, litres)) {
                    baths.pourIn(to, litres, baths.heats[from]);
                    baths.litres[from] -= litres;
                }
            }
        }

        private static void coolTubs(Orders orders, Baths baths) {
            for (int tub = 0; tub < orders.tubs.size && tub < MOST_TUBS; tub++) {
                long worth = orders.worthOf(COOL, baths, NONE, tub, 0);
                int less = worth == ERROR
                    ? Math.max(0, (baths.heats[tub] - 200) / 50)
                    : within(worth, 0, 99);
                baths.heats[tub] = Math.max(0, baths.heats[tub] - less);
            }
        }

        private static int within(long number, int least, int most) {
            return number < least ? least : number > most ? most : (int) number;
        }

        private void seatKnights(Rows sittings, Baths baths) {
            for (int sitting = 0; sitting < sittings.size; sitting++) {
                int knight = sittings.cell(sitting, 0);
                if (sittings.cell(sitting, 2) != baths.minute || knight == absent) {
                    continue;
                }
                if (!baths.enter(knight, sittings.cell(sitting, 1))) {
                    baths.sentOff++;
                }
            }
        }

        private void stand(Orders orders, Baths baths, int knight) {
            int tub = baths.places[knight];
            if (!orders.hasTub(tub)) {
                return;
            }
            if (orders.easeIn(baths, knight, tub, baths.stays[knight])) {
                baths.bests[knight] = Math.max(baths.bests[knight], baths.heats[tub]);
            } else if (givesWay(orders.flinch, baths)) {
                baths.leave(knight);
                baths.flinched[knight]++;
                return;
            }
            baths.stood[knight] = Math.min(MOST_STOOD, baths.stood[knight] + 1);
            baths.stays[knight]++;
            long worth = orders.worthOf(RISE, baths, knight, tub, baths.stays[knight]);
            int more = worth == ERROR ? 0 : within(worth, -9, 9);
            baths.bears[knight] = within(baths.bears[knight] + more, 0, 99);
        }

        private boolean givesWay(int flinch, Baths baths) {
            if (flinching != BY_NUMBERS) {
                return flinching == ALWAYS;
            }
            // No number is drawn where the odds leave nothing open.
            if (flinch == 0 || flinch == 100) {
                return flinch == 100;
            }
            return baths.draw() % 100 < flinch;
        }
    }

    /** What was ahead of the latest doings by call. */
    static final class Past {
        static final int ROW = 2 * MOST_TUBS + 2 * MOST_KNIGHTS;

        private final int[] rows = new int[MOST_UNDONE * ROW];
        int size;

        void forget() {
            size = 0;
        }

        void save(Baths baths) {
            if (size >= MOST_UNDONE) {
                System.arraycopy(rows, ROW, rows, 0, (MOST_UNDONE - 1) * ROW);
                size = MOST_UNDONE - 1;
            }
            int at = size * ROW;
            System.arraycopy(baths.litres, 0, rows, at, MOST_TUBS);
            System.arraycopy(baths.heats, 0, rows, at + MOST_TUBS, MOST_TUBS);
            System.arraycopy(baths.places, 0, rows, at + 2 * MOST_TUBS, MOST_KNIGHTS);
            System.arraycopy(baths.stays, 0, rows, at + 2 * MOST_TUBS + MOST_KNIGHTS, MOST_KNIGHTS);
            size++;
        }

        boolean restore(Baths baths) {
            if (size <= 0 || size > MOST_UNDONE) {
                return false;
            }
            size--;
            int at = size * ROW;
            for (int knight = 0; knight < MOST_KNIGHTS; knight++) {
                baths.leave(knight);
            }
            System.arraycopy(rows, at, baths.litres, 0, MOST_TUBS);
            System.arraycopy(rows, at + MOST_TUBS, baths.heats, 0, MOST_TUBS);
            for (int knight = 0; knight < MOST_KNIGHTS; knight++) {
                baths.enter(knight, rows[at + 2 * MOST_TUBS + knight]);
                baths.stays[knight] = rows[at + 2 * MOST_TUBS + MOST_KNIGHTS + knight];
            }
            return true;
        }
    }

    /** What was seen, and what strikes it. */
    static final class Facts {
        private final int[] behind = new int[MOST_FACTS];
        private final int[] knights = new int[MOST_FACTS];
        private final int[] stood = new int[MOST_FACTS];
        private final boolean[] atLeast = new boolean[MOST_FACTS];
        private final int[] strikes = new int[MOST_FACTS];
        private final boolean[] holds = new boolean[MOST_FACTS];
        int size;
        int knownBy = NONE;

        void forget() {
            size = 0;
            knownBy = NONE;
        }

        int record(int minutes, int knight, int many, boolean orMore) {
            if (size < 0 || size >= MOST_FACTS) {
                return NONE;
            }
            behind[size] = minutes;
            knights[size] = knight;
            stood[size] = many;
            atLeast[size] = orMore;
            strikes[size] = NONE;
            size++;
            return size - 1;
        }

        int recordStrike(int fact) {
            if (fact < 0 || fact >= size) {
                return NONE;
            }
            int number = record(0, 0, 0, true);
            if (number >= 0 && number < MOST_FACTS) {
                strikes[number] = fact;
            }
            return number;
        }

        int countKnown() {
            return knownBy < 0 ? size : knownBy;
        }

        /** Finds which facts hold, from the last one on, so that what is struck strikes nothing. */
        void sift() {
            int many = countKnown();
            for (int fact = 0; fact < MOST_FACTS; fact++) {
                holds[fact] = fact < many;
            }
            for (int fact = MOST_FACTS - 1; fact >= 0; fact--) {
                int struck = strikes[fact];
                if (holds[fact] && struck >= 0 && struck < fact) {
                    holds[struck] = false;
                }
            }
        }

        int lastMinute() {
            int last = 0;
            for (int fact = 0; fact < MOST_FACTS; fact++) {
                if (holds[fact]) {
                    last = Math.max(last, behind[fact]);
                }
            }
            return last;
        }

        /** Whether all that hold and tell of this minute are so. */
        boolean agreeWith(Baths baths) {
            for (int fact = 0; fact < MOST_FACTS; fact++) {
                int knight = knights[fact];
                if (holds[fact] && strikes[fact] < 0 && behind[fact] == baths.minute
                    && knight >= 0 && knight < MOST_KNIGHTS
                    && baths.stood[knight] >= stood[fact] != atLeast[fact]) {
                    return false;
                }
            }
            return true;
        }
    }

    /** What a knight may bear by the facts, and when to look at him next. */
    static final class Guesses {
        private final Baths guessed = new Baths();
        private final long[] seenIn = new long[GUESSES];
        private int borneBits;
        int bestMinute;
        int left;

        /** Bits of what he may bear; of each, it is kept behind which minutes he is in a tub. */
        int find(Orders orders, Minutes minutes, Facts facts, int knight, int upTo) {
            borneBits = 0;
            if (!orders.hasKnight(knight)) {
                return borneBits;
            }
            for (int guess = 0; guess < GUESSES; guess++) {
                guessed.begin(orders);
                guessed.bears[knight] = 10 * guess;
                seenIn[guess] = 0;
                boolean agreed = true;
                for (int i = 0; i < upTo && agreed; i++) {
                    minutes.pass(orders, guessed);
                    agreed = facts.agreeWith(guessed);
                    if (guessed.places[knight] >= 0) {
                        seenIn[guess] |= 1L << guessed.minute;
                    }
                }
                if (agreed) {
                    borneBits |= 1 << guess;
                }
            }
            return borneBits;
        }

        void findQuestion() {
            int all = Integer.bitCount(borneBits);
            bestMinute = 1;
            left = all;
            for (int minute = 1; minute <= MOST_SEEN; minute++) {
                int inTub = 0;
                for (int guess = 0; guess < GUESSES; guess++) {
                    if ((borneBits >> guess & 1) == 1 && (seenIn[guess] >> minute & 1) == 1) {
                        inTub++;
                    }
                }
                int worst = Math.max(inTub, all - inTub);
                if (worst < left) {
                    left = worst;
                    bestMinute = minute;
                }
            }
        }
    }

    /** A tub of ease for as many knights as may be. */
    static final class Matching {
        static final int MASKS = 1 << MOST_TUBS;
        static final int ONE_MORE = 10000;

        /** By knight and by the tubs taken ahead: the most that this knight and the later ones make. */
        private final int[] most = new int[(MOST_KNIGHTS + 1) * MASKS];
        private final boolean[] fits = new boolean[MOST_KNIGHTS * MOST_TUBS];
        final int[] chosen = new int[MOST_KNIGHTS];
        int matched;
        int heat;

        void find(Orders orders, Baths baths) {
            int knights = Math.min(orders.knights.size, MOST_KNIGHTS);
            int tubs = Math.min(orders.tubs.size, MOST_TUBS);
            for (int i = 0; i < fits.length; i++) {
                int tub = i % MOST_TUBS;
                fits[i] = tub < tubs && orders.easeIn(baths, i / MOST_TUBS, tub, 0);
            }
            for (int taken = 0; taken < MASKS; taken++) {
                most[knights * MASKS + taken] = 0;
            }
            for (int knight = knights - 1; knight >= 0; knight--) {
                for (int taken = 0; taken < MASKS; taken++) {
                    most[knight * MASKS + taken] = bestOf(baths, knight, taken);
                }
            }
            choose(baths, knights);
        }

        private int bestOf(Baths baths, int knight, int taken) {
            int best = most[(knight + 1) * MASKS + taken];
            for (int tub = 0; tub < MOST_TUBS; tub++) {
                best = Math.max(best, gainWith(baths, knight, taken, tub));
            }
            return best;
        }

        /** What comes of it if he has this tub; NONE: he can't. */
        private int gainWith(Baths baths, int knight, int taken, int tub) {
            if (!fits[knight * MOST_TUBS + tub] || (taken >> tub & 1) == 1) {
                return NONE;
            }
            return ONE_MORE + baths.heats[tub] + most[(knight + 1) * MASKS + (taken | 1 << tub)];
        }

        private void choose(Baths baths, int knights) {
            int taken = 0;
            matched = most[0] / ONE_MORE;
            heat = most[0] % ONE_MORE;
            for (int knight = 0; knight < MOST_KNIGHTS; knight++) {
                chosen[knight] = NOT_SO;
                for (int tub = 0; tub < MOST_TUBS && knight < knights && chosen[knight] < 0; tub++) {
                    if (gainWith(baths, knight, taken, tub) == most[knight * MASKS + taken]) {
                        chosen[knight] = tub;
                    }
                }
                if (chosen[knight] >= 0) {
                    taken |= 1 << chosen[knight];
                }
            }
        }
    }
}
