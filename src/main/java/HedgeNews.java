/**
 * A garden of gossiping hedges. A tape of bytes is taught as a garden of hedges, roses and orders;
 * news that is told to a hedge is whispered on to all who listen there, quieter each time.
 *
 * <p>Nothing is made behind the constructor but exceptions: every row is made once and used again.
 */
public final class HedgeNews {
    private static final int MOST_BYTES = 2000;
    private static final int FED_BYTES = 20;
    private static final int MOST_TOKENS = 400;
    private static final int LONGEST_WORD = 10;
    private static final int LONGEST_NUMBER = 6;
    private static final int MOST_DEPTH = 8;
    private static final int MOST_HEDGES = 8;
    private static final int MOST_ROSES = 8;
    private static final int MOST_ORDERS = 16;
    private static final int MOST_HUSH = 9;
    private static final int MOST_LISTENERS = MOST_HEDGES + MOST_ROSES;
    private static final int MOST_WHISPERS = MOST_HEDGES * MOST_LISTENERS;
    private static final int LOUDEST = 99;
    private static final int MOST_DAYS = 30;
    private static final int DAYS_LOOKED_AHEAD = 40;
    private static final int NO_GARDEN = 1;
    private static final int DIGEST_START = 1063;
    private static final int DIGEST_FACTOR = 31;
    private static final int DIGEST_LOUDNESS = 20;

    /** A listener is a number: that of a hedge, or this and that of a rose. */
    private static final int FIRST_ROSE = MOST_HEDGES;

    private final Tape tape = new Tape();
    private final Tokens tokens = new Tokens();
    private final NameCheck names = new NameCheck();
    private final News news = new News();
    private final Gardener gardener = new Gardener(news);
    private final Garden garden = new Garden();
    private final Garden trial = new Garden();
    private Plan plan = new Plan();
    private Plan sparePlan = new Plan();
    private final Parser parser = new Parser(tokens, sparePlan);
    private int errorPosition = -1;

    public HedgeNews() {
    }

    // ---- the language

    public int feed(int a, int b, int c, int d, int e) throws IllegalStateException {
        if (tape.size > MOST_BYTES - FED_BYTES) {
            throw new IllegalStateException("the tape would be too long");
        }
        tape.add(a);
        tape.add(b);
        tape.add(c);
        tape.add(d);
        tape.add(e);
        return tape.size;
    }

    public int trim(int n) throws IllegalArgumentException {
        if (n < 0 || n > tape.size) {
            throw new IllegalArgumentException("the tape has no such first bytes");
        }
        tape.size = n;
        return n;
    }

    public int teach() {
        tokens.scan(tape);
        tape.size = 0;
        sparePlan.clear();
        if (!parser.readsInto(sparePlan)) {
            errorPosition = tokens.start(parser.at);
            return NO_GARDEN;
        }
        int error = names.check(tokens, sparePlan);
        if (error != 0) {
            errorPosition = tokens.start(names.wrongToken);
            return error;
        }
        errorPosition = -1;
        sparePlan.link(tokens);
        beginSparePlan();
        return 0;
    }

    /** An error leaves the old plan as it is, so the new one is written into another. */
    private void beginSparePlan() {
        Plan taught = sparePlan;
        sparePlan = plan;
        plan = taught;
        garden.begin(taught);
    }

    public int errorAt() {
        return errorPosition;
    }

    // ---- the garden

    public int hedges() {
        return garden.hedgeCount;
    }

    public int roses() {
        return garden.roseCount;
    }

    public int day() {
        return garden.day;
    }

    public int ordersCarriedOut() {
        return garden.ordersDone;
    }

    public int whispers() {
        return garden.whispers;
    }

    public int cycles() {
        return garden.cycles;
    }

    public int departures() {
        return garden.departures;
    }

    // ---- hedges

    public int hushOf(int hedge) throws IndexOutOfBoundsException {
        return hedgeNumbered(hedge).hush;
    }

    public int heardBy(int hedge) throws IndexOutOfBoundsException {
        return hedgeNumbered(hedge).heard;
    }

    public int latestOf(int hedge) throws IndexOutOfBoundsException {
        return hedgeNumbered(hedge).latest;
    }

    public int listenersOf(int hedge) throws IndexOutOfBoundsException {
        return hedgeNumbered(hedge).listeners;
    }

    public int hedgeInRow(int hedge, int other) throws IndexOutOfBoundsException {
        hedgeNumbered(hedge);
        return hedgeNumbered(other).placeOf(hedge);
    }

    public int roseInRow(int rose, int hedge) throws IndexOutOfBoundsException {
        roseNumbered(rose);
        return hedgeNumbered(hedge).placeOf(FIRST_ROSE + rose);
    }

    private Hedge hedgeNumbered(int number) {
        Hedge hedge = garden.hedge(number);
        if (hedge == null) {
            throw new IndexOutOfBoundsException("no such hedge");
        }
        return hedge;
    }

    // ---- roses

    public int patienceOf(int rose) throws IndexOutOfBoundsException {
        return roseNumbered(rose).patience;
    }

    public int petalsOf(int rose) throws IndexOutOfBoundsException {
        return roseNumbered(rose).petals;
    }

    public int countOf(int rose) throws IndexOutOfBoundsException {
        return roseNumbered(rose).count;
    }

    public int hedgesOf(int rose) throws IndexOutOfBoundsException {
        roseNumbered(rose);
        return garden.rowsWith(FIRST_ROSE + rose);
    }

    public int fullest() {
        return garden.fullestRose();
    }

    private Rose roseNumbered(int number) {
        Rose rose = garden.rose(number);
        if (rose == null) {
            throw new IndexOutOfBoundsException("no such rose");
        }
        return rose;
    }

    // ---- by hand

    public int hedgeListens(int hedge, int other) throws IndexOutOfBoundsException, IllegalStateException {
        hedgeNumbered(hedge);
        return placeAfterListening(hedge, other);
    }

    public int roseListens(int rose, int hedge) throws IndexOutOfBoundsException, IllegalStateException {
        roseNumbered(rose);
        return placeAfterListening(FIRST_ROSE + rose, hedge);
    }

    public int hedgeLeaves(int hedge, int other) throws IndexOutOfBoundsException, IllegalStateException {
        hedgeNumbered(hedge);
        return listenersAfterLeaving(hedge, other);
    }

    public int roseLeaves(int rose, int hedge) throws IndexOutOfBoundsException, IllegalStateException {
        roseNumbered(rose);
        return listenersAfterLeaving(FIRST_ROSE + rose, hedge);
    }

    private int placeAfterListening(int listener, int number) {
        Hedge hedge = hedgeNumbered(number);
        if (!garden.startListening(listener, number)) {
            throw new IllegalStateException("it listens there, or is this very hedge");
        }
        return hedge.listeners - 1;
    }

    private int listenersAfterLeaving(int listener, int number) {
        Hedge hedge = hedgeNumbered(number);
        if (!garden.stopListening(listener, number)) {
            throw new IllegalStateException("it does not listen there");
        }
        return hedge.listeners;
    }

    public int tell(int hedge, int loudness) throws IndexOutOfBoundsException, IllegalArgumentException {
        hedgeNumbered(hedge);
        needLoudness(loudness);
        return news.carry(garden, hedge, loudness);
    }

    private static void needLoudness(int loudness) {
        if (loudness < 1 || loudness > LOUDEST) {
            throw new IllegalArgumentException("a loudness is 1 to 99");
        }
    }

    // ---- days and what would be

    public int passDays(int days) throws IllegalArgumentException {
        needDays(days);
        int whispersBefore = garden.whispers;
        for (int i = 0; i < days; i++) {
            gardener.letDayPass(plan, garden);
        }
        return garden.whispers - whispersBefore;
    }

    public int reach(int hedge, int loudness) throws IndexOutOfBoundsException, IllegalArgumentException {
        hedgeNumbered(hedge);
        needLoudness(loudness);
        tryTelling(hedge, loudness);
        return news.hedgesReached();
    }

    public int loudnessAt(int hedge, int other) throws IndexOutOfBoundsException {
        hedgeNumbered(hedge);
        hedgeNumbered(other);
        tryTelling(hedge, LOUDEST);
        return news.firstLoudnessAt(other);
    }

    public boolean comesBack(int hedge) throws IndexOutOfBoundsException {
        hedgeNumbered(hedge);
        tryTelling(hedge, LOUDEST);
        return news.cameAgainTo(hedge);
    }

    public int petalsAfter(int rose, int days) throws IndexOutOfBoundsException, IllegalArgumentException {
        roseNumbered(rose);
        needDays(days);
        trial.copy(garden);
        for (int i = 0; i < days; i++) {
            gardener.letDayPass(plan, trial);
        }
        return trial.petalsAt(rose);
    }

    public int daysUntilLeft(int rose) throws IndexOutOfBoundsException {
        int departuresNow = roseNumbered(rose).departures;
        trial.copy(garden);
        for (int days = 1; days <= DAYS_LOOKED_AHEAD; days++) {
            gardener.letDayPass(plan, trial);
            if (trial.departuresAt(rose) > departuresNow) {
                return days;
            }
        }
        return -1;
    }

    public int bestToTell(int loudness) throws IllegalArgumentException {
        needLoudness(loudness);
        int best = -1;
        long mostPetals = -1;
        for (int hedge = 0; hedge < garden.hedgeCount; hedge++) {
            tryTelling(hedge, loudness);
            long petals = trial.petalsInAll();
            if (petals > mostPetals) {
                best = hedge;
                mostPetals = petals;
            }
        }
        return best;
    }

    public double meanPetals() {
        if (garden.roseCount == 0) {
            return 0;
        }
        return (double) garden.petalsInAll() / garden.roseCount;
    }

    public long digest() {
        long sum = DIGEST_START;
        sum = digested(sum, garden.hedgeCount);
        sum = digested(sum, garden.roseCount);
        sum = digested(sum, garden.day);
        sum = digested(sum, garden.ordersDone);
        sum = digested(sum, garden.whispers);
        sum = digested(sum, garden.cycles);
        sum = digested(sum, garden.departures);
        sum = digested(sum, garden.fullestRose());
        sum = digested(sum, bestToTell(DIGEST_LOUDNESS));
        for (int hedge = 0; hedge < garden.hedgeCount; hedge++) {
            sum = digestedHedge(sum, hedge);
        }
        for (int rose = 0; rose < garden.roseCount; rose++) {
            sum = digested(sum, petalsOf(rose));
            sum = digested(sum, countOf(rose));
            sum = digested(sum, hedgesOf(rose));
        }
        return sum;
    }

    private long digestedHedge(long start, int hedge) {
        long sum = digested(start, heardBy(hedge));
        sum = digested(sum, latestOf(hedge));
        sum = digested(sum, listenersOf(hedge));
        for (int other = 0; other < garden.hedgeCount; other++) {
            sum = digested(sum, hedgeInRow(other, hedge));
        }
        for (int rose = 0; rose < garden.roseCount; rose++) {
            sum = digested(sum, roseInRow(rose, hedge));
        }
        return sum;
    }

    private static long digested(long sum, int number) {
        return sum * DIGEST_FACTOR + number;
    }

    private static void needDays(int days) {
        if (days < 1 || days > MOST_DAYS) {
            throw new IllegalArgumentException("days are 1 to 30");
        }
    }

    private void tryTelling(int hedge, int loudness) {
        trial.copy(garden);
        news.carry(trial, hedge, loudness);
    }

    /** What a token is; also what a step of a plan does. */
    private enum Kind {
        END, BAD, NAME, NUMBER,
        /** Steps that no token of their own stands for: a - in front, and an order without a test. */
        TURN, EVER,
        HEDGE("hedge"), HUSH("hush"), ROSE("rose"), PATIENCE("patience"),
        LISTEN("listen"), LEAVE("leave"), TO("to"), TELL("tell"), WITH("with"), WHEN("when"),
        DAY("day"), CYCLES("cycles"), WHISPERS("whispers"),
        HEARD("heard"), LATEST("latest"), PETALS("petals"), OF("of"),
        HEARS("hears"), NOT("not"), AND("and"), OR("or"), MIN("min"), MAX("max"),
        OPEN, CLOSE, OPEN_TEST, CLOSE_TEST, SEMICOLON, COMMA,
        PLUS, MINUS, TIMES, OVER, LESS, GREATER, EQUAL, AT_MOST, AT_LEAST;

        private static final Kind[] ALL = values();

        private final long key;

        Kind() {
            key = 0;
        }

        Kind(String word) {
            long made = 0;
            for (int i = 0; i < word.length(); i++) {
                made = longerKey(made, word.charAt(i));
            }
            key = made;
        }

        /** A word of ten signs fits into a long, at six bits a sign; none of them is 0. */
        static long longerKey(long key, int sign) {
            int code = sign >= 'a' ? sign - 'a' + 1 : sign - '0' + 27;
            return (key << 6) | code;
        }

        static Kind ofWord(long key) {
            for (int i = 0; i < ALL.length; i++) {
                if (ALL[i].key == key) {
                    return ALL[i];
                }
            }
            return NAME;
        }

        boolean isOrder() {
            return this == LISTEN || this == LEAVE || this == TELL;
        }

        boolean isComparison() {
            return this == LESS || this == GREATER || this == EQUAL || this == AT_MOST || this == AT_LEAST;
        }

        boolean addsUp() {
            return this == PLUS || this == MINUS;
        }

        boolean multiplies() {
            return this == TIMES || this == OVER;
        }
    }

    /** The bytes that wait for the next teach(). */
    private static final class Tape {
        static final int NO_BYTE = -1;

        private final byte[] bytes = new byte[MOST_BYTES];
        int size;

        void add(int number) {
            for (int shift = 24; shift >= 0; shift -= 8) {
                if (size >= 0 && size < bytes.length) {
                    bytes[size] = (byte) (number >> shift);
                    size++;
                }
            }
        }

        int at(int position) {
            if (position < 0 || position >= size || position >= bytes.length) {
                return NO_BYTE;
            }
            return bytes[position] & 255;
        }
    }

    /** The tokens of a tape, with an END or a BAD one behind the last that is good. */
    private static final class Tokens {
        private final Kind[] kinds = new Kind[MOST_TOKENS + 1];
        private final int[] starts = new int[MOST_TOKENS + 1];
        private final long[] keys = new long[MOST_TOKENS + 1];
        private final int[] meanings = new int[MOST_TOKENS + 1];
        private int last;
        private int cursor;
        private long readKey;
        private int readNumber;

        Tokens() {
            for (int i = 0; i < kinds.length; i++) {
                kinds[i] = Kind.END;
            }
        }

        void scan(Tape tape) {
            cursor = 0;
            for (int i = 0; i <= MOST_TOKENS; i++) {
                skipBlanks(tape);
                starts[i] = cursor;
                Kind kind = next(tape);
                if (i == MOST_TOKENS && kind != Kind.END) {
                    kind = Kind.BAD;
                }
                kinds[i] = kind;
                keys[i] = readKey;
                meanings[i] = readNumber;
                last = i;
                if (kind == Kind.END || kind == Kind.BAD) {
                    return;
                }
            }
        }

        private void skipBlanks(Tape tape) {
            while (cursor < tape.size && (tape.at(cursor) == ' ' || tape.at(cursor) == '\n')) {
                cursor++;
            }
        }

        private Kind next(Tape tape) {
            int sign = tape.at(cursor);
            if (sign == Tape.NO_BYTE) {
                return Kind.END;
            }
            if (isLetter(sign)) {
                return word(tape);
            }
            if (isDigit(sign)) {
                return number(tape);
            }
            cursor++;
            return symbol(sign, tape);
        }

        private Kind word(Tape tape) {
            int length = 0;
            readKey = 0;
            while (length <= LONGEST_WORD && isInWord(tape.at(cursor))) {
                readKey = Kind.longerKey(readKey, tape.at(cursor));
                length++;
                cursor++;
            }
            return length > LONGEST_WORD ? Kind.BAD : Kind.ofWord(readKey);
        }

        private Kind number(Tape tape) {
            int length = 0;
            readNumber = 0;
            while (length <= LONGEST_NUMBER && isDigit(tape.at(cursor))) {
                readNumber = readNumber * 10 + tape.at(cursor) - '0';
                length++;
                cursor++;
            }
            return length > LONGEST_NUMBER ? Kind.BAD : Kind.NUMBER;
        }

        private Kind symbol(int sign, Tape tape) {
            switch (sign) {
                case '(': return Kind.OPEN;
                case ')': return Kind.CLOSE;
                case '[': return Kind.OPEN_TEST;
                case ']': return Kind.CLOSE_TEST;
                case ';': return Kind.SEMICOLON;
                case ',': return Kind.COMMA;
                case '+': return Kind.PLUS;
                case '-': return Kind.MINUS;
                case '*': return Kind.TIMES;
                case '/': return Kind.OVER;
                case '=': return Kind.EQUAL;
                case '<': return withEqual(tape) ? Kind.AT_MOST : Kind.LESS;
                case '>': return withEqual(tape) ? Kind.AT_LEAST : Kind.GREATER;
                default: return Kind.BAD;
            }
        }

        private boolean withEqual(Tape tape) {
            if (tape.at(cursor) != '=') {
                return false;
            }
            cursor++;
            return true;
        }

        private static boolean isLetter(int sign) {
            return sign >= 'a' && sign <= 'z';
        }

        private static boolean isDigit(int sign) {
            return sign >= '0' && sign <= '9';
        }

        private static boolean isInWord(int sign) {
            return isLetter(sign) || isDigit(sign);
        }

        private boolean has(int token) {
            return token >= 0 && token <= last && token <= MOST_TOKENS;
        }

        Kind kind(int token) {
            return has(token) ? kinds[token] : Kind.END;
        }

        int start(int token) {
            return has(token) ? starts[token] : -1;
        }

        long key(int token) {
            return has(token) ? keys[token] : 0;
        }

        /** The value of a number, or the listener of a name once the names are checked. */
        int meaning(int token) {
            return has(token) ? meanings[token] : 0;
        }

        void mean(int token, int listener) {
            if (has(token)) {
                meanings[token] = listener;
            }
        }
    }

    /** A taught garden: its hedges and roses, and its orders as steps over a pile of numbers. */
    private static final class Plan {
        private final int[] hushes = new int[MOST_HEDGES];
        private final int[] patiences = new int[MOST_ROSES];
        private int hedgeCount;
        private int roseCount;
        private final Kind[] acts = new Kind[MOST_TOKENS];
        private final int[] firsts = new int[MOST_TOKENS];
        private final int[] seconds = new int[MOST_TOKENS];
        private int size;

        Plan() {
            for (int i = 0; i < acts.length; i++) {
                acts[i] = Kind.END;
            }
        }

        void clear() {
            hedgeCount = 0;
            roseCount = 0;
            size = 0;
        }

        void addHedge(int hush) {
            if (hedgeCount >= 0 && hedgeCount < hushes.length) {
                hushes[hedgeCount] = hush;
                hedgeCount++;
            }
        }

        void addRose(int patience) {
            if (roseCount >= 0 && roseCount < patiences.length) {
                patiences[roseCount] = patience;
                roseCount++;
            }
        }

        /** Puts a step at the end, with the tokens it names; there is room, for steps are fewer than tokens. */
        boolean add(Kind act, int first, int second) {
            if (size < 0 || size >= MOST_TOKENS) {
                return false;
            }
            acts[size] = act;
            firsts[size] = first;
            seconds[size] = second;
            size++;
            return true;
        }

        /** Puts what they mean in the place of the tokens, which are gone with the next tape. */
        void link(Tokens tokens) {
            for (int i = 0; i < size && i < MOST_TOKENS; i++) {
                firsts[i] = tokens.meaning(firsts[i]);
                seconds[i] = tokens.meaning(seconds[i]);
            }
        }
    }

    /**
     * Follows the grammar; each method is true if what it is named for stood there and is read. A step
     * is put down behind those whose numbers it takes. Steps name their tokens until they are linked.
     */
    private static final class Parser {
        private static final int NO_TOKEN = -1;

        private final Tokens tokens;
        private Plan plan;
        int at;
        private Kind now = Kind.END;

        Parser(Tokens itsTokens, Plan firstPlan) {
            tokens = itsTokens;
            plan = firstPlan;
        }

        /** Whether the tokens are a garden; if not, at is the first with which they are none. */
        boolean readsInto(Plan empty) {
            plan = empty;
            at = 0;
            now = tokens.kinds[0];
            boolean good = true;
            for (int i = 0; i <= MOST_TOKENS && good && now != Kind.END; i++) {
                good = line() && take(Kind.SEMICOLON);
            }
            return good && now == Kind.END;
        }

        private boolean take(Kind wanted) {
            if (now != wanted || at < 0 || at >= MOST_TOKENS) {
                return false;
            }
            at++;
            now = tokens.kinds[at];
            return true;
        }

        private boolean line() {
            Kind word = now;
            int first = at;
            switch (word) {
                case HEDGE:
                    return take(word) && take(Kind.NAME) && take(Kind.HUSH) && take(Kind.NUMBER);
                case ROSE:
                    return take(word) && take(Kind.NAME) && take(Kind.PATIENCE) && take(Kind.NUMBER);
                case LISTEN:
                case LEAVE:
                case TELL:
                    return order()
                        && (take(Kind.WHEN) ? test(0) : plan.add(Kind.EVER, NO_TOKEN, NO_TOKEN))
                        && plan.add(word, first + 1, word == Kind.TELL ? first + 1 : first + 3);
                default:
                    return false;
            }
        }

        private boolean order() {
            if (now == Kind.TELL) {
                return take(Kind.TELL) && take(Kind.NAME) && take(Kind.WITH) && sum(0);
            }
            return take(now) && take(Kind.NAME) && take(Kind.TO) && take(Kind.NAME);
        }

        /** An "or" waits until its right side is over, since "and" binds more. */
        private boolean test(int depth) {
            boolean orWaits = false;
            boolean good = single(depth);
            for (int i = 0; i < MOST_TOKENS && good && (now == Kind.AND || now == Kind.OR); i++) {
                if (now == Kind.AND) {
                    good = take(Kind.AND) && single(depth) && plan.add(Kind.AND, NO_TOKEN, NO_TOKEN);
                } else {
                    good = (!orWaits || plan.add(Kind.OR, NO_TOKEN, NO_TOKEN)) && take(Kind.OR) && single(depth);
                    orWaits = true;
                }
            }
            return good && (!orWaits || plan.add(Kind.OR, NO_TOKEN, NO_TOKEN));
        }

        private boolean single(int depth) {
            int first = at;
            switch (now) {
                case NOT:
                    return depth < MOST_DEPTH && take(Kind.NOT) && single(depth + 1)
                        && plan.add(Kind.NOT, NO_TOKEN, NO_TOKEN);
                case OPEN_TEST:
                    return depth < MOST_DEPTH && take(Kind.OPEN_TEST) && test(depth + 1)
                        && take(Kind.CLOSE_TEST);
                case HEARS:
                    return take(Kind.HEARS) && take(Kind.NAME) && take(Kind.OF) && take(Kind.NAME)
                        && plan.add(Kind.HEARS, first + 1, first + 3);
                default:
                    boolean good = sum(depth);
                    Kind sign = now;
                    return good && sign.isComparison() && take(sign) && sum(depth)
                        && plan.add(sign, NO_TOKEN, NO_TOKEN);
            }
        }

        /** A + or - waits until its right side is over, since * and / bind more. */
        private boolean sum(int depth) {
            Kind waiting = Kind.END;
            boolean good = value(depth);
            for (int i = 0; i < MOST_TOKENS && good && (now.addsUp() || now.multiplies()); i++) {
                Kind sign = now;
                if (sign.multiplies()) {
                    good = take(sign) && value(depth) && plan.add(sign, NO_TOKEN, NO_TOKEN);
                } else {
                    good = (waiting == Kind.END || plan.add(waiting, NO_TOKEN, NO_TOKEN)) && take(sign) && value(depth);
                    waiting = sign;
                }
            }
            return good && (waiting == Kind.END || plan.add(waiting, NO_TOKEN, NO_TOKEN));
        }

        private boolean value(int depth) {
            Kind word = now;
            int first = at;
            switch (word) {
                case NUMBER:
                case DAY:
                case CYCLES:
                case WHISPERS:
                    return take(word) && plan.add(word, first, NO_TOKEN);
                case HEARD:
                case LATEST:
                case PETALS:
                    return take(word) && take(Kind.OF) && take(Kind.NAME) && plan.add(word, first + 2, NO_TOKEN);
                case MINUS:
                    return depth < MOST_DEPTH && take(word) && value(depth + 1)
                        && plan.add(Kind.TURN, NO_TOKEN, NO_TOKEN);
                case OPEN:
                    return depth < MOST_DEPTH && take(word) && sum(depth + 1) && take(Kind.CLOSE);
                case MIN:
                case MAX:
                    return take(word) && depth < MOST_DEPTH && take(Kind.OPEN)
                        && sum(depth + 1) && take(Kind.COMMA) && sum(depth + 1)
                        && take(Kind.CLOSE) && plan.add(word, NO_TOKEN, NO_TOKEN);
                default:
                    return false;
            }
        }
    }

    /** Looks at keywords, names and numbers from left to right: errors 2 to 5. */
    private static final class NameCheck {
        private static final int TOLD_BEFORE = 2;
        private static final int NOT_TOLD = 3;
        private static final int TOO_MANY = 4;
        private static final int NOT_ONE_TO_NINE = 5;
        private static final int NOBODY = -1;

        private final long[] keys = new long[MOST_LISTENERS];
        private int orders;
        int wrongToken;

        /** Returns the error, or 0; the plan gets the hedges and roses, the names get their meaning. */
        int check(Tokens tokens, Plan plan) {
            orders = 0;
            for (int token = 0; token < MOST_TOKENS && tokens.kind(token) != Kind.END; token++) {
                int error = errorOf(tokens, token, plan);
                if (error != 0) {
                    wrongToken = token;
                    return error;
                }
            }
            return 0;
        }

        private int errorOf(Tokens tokens, int token, Plan plan) {
            Kind kind = tokens.kind(token);
            Kind ahead = tokens.kind(token - 1);
            if (kind.isOrder()) {
                orders++;
                return orders > MOST_ORDERS ? TOO_MANY : 0;
            }
            if (kind == Kind.NUMBER) {
                return errorOfNumber(tokens.meaning(token), ahead, plan);
            }
            if (kind != Kind.NAME) {
                return 0;
            }
            if (ahead == Kind.HEDGE || ahead == Kind.ROSE) {
                return errorOfNewName(tokens.key(token), ahead, plan);
            }
            return errorOfOldName(tokens, token, plan);
        }

        private int errorOfNumber(int number, Kind ahead, Plan plan) {
            if (ahead != Kind.HUSH && ahead != Kind.PATIENCE) {
                return 0;
            }
            if (number < 1 || number > MOST_HUSH) {
                return NOT_ONE_TO_NINE;
            }
            if (ahead == Kind.HUSH) {
                plan.addHedge(number);
            } else {
                plan.addRose(number);
            }
            return 0;
        }

        /** The name is found from its number on, with which the plan counts its hedge or rose. */
        private int errorOfNewName(long key, Kind ahead, Plan plan) {
            if (listenerNamed(key, plan) != NOBODY) {
                return TOLD_BEFORE;
            }
            int count = ahead == Kind.HEDGE ? plan.hedgeCount : plan.roseCount;
            int most = ahead == Kind.HEDGE ? MOST_HEDGES : MOST_ROSES;
            int listener = ahead == Kind.HEDGE ? count : FIRST_ROSE + count;
            if (count >= most || listener < 0 || listener >= keys.length) {
                return TOO_MANY;
            }
            keys[listener] = key;
            return 0;
        }

        private int errorOfOldName(Tokens tokens, int token, Plan plan) {
            int listener = listenerNamed(tokens.key(token), plan);
            Kind ahead = tokens.kind(token - 1);
            boolean mayBeBoth = ahead == Kind.LISTEN || ahead == Kind.LEAVE || ahead == Kind.HEARS;
            boolean isForRose = ahead == Kind.OF && tokens.kind(token - 2) == Kind.PETALS;
            boolean isRose = listener >= FIRST_ROSE;
            if (listener == NOBODY || (!mayBeBoth && isForRose != isRose)) {
                return NOT_TOLD;
            }
            tokens.mean(token, listener);
            return 0;
        }

        private int listenerNamed(long key, Plan plan) {
            for (int i = 0; i < keys.length; i++) {
                boolean isTold = i < FIRST_ROSE ? i < plan.hedgeCount : i - FIRST_ROSE < plan.roseCount;
                if (isTold && keys[i] == key) {
                    return i;
                }
            }
            return NOBODY;
        }
    }

    /** A hedge with the row of those who listen to it. */
    private static final class Hedge {
        int hush;
        int heard;
        int latest;
        int listeners;
        private final int[] row = new int[MOST_LISTENERS];

        void begin(int itsHush) {
            hush = itsHush;
            heard = 0;
            latest = 0;
            listeners = 0;
        }

        void copy(Hedge other) {
            hush = other.hush;
            heard = other.heard;
            latest = other.latest;
            listeners = other.listeners;
            for (int i = 0; i < row.length && i < other.row.length; i++) {
                row[i] = other.row[i];
            }
        }

        int listenerAt(int place) {
            return place < 0 || place >= row.length ? -1 : row[place];
        }

        int placeOf(int listener) {
            for (int i = 0; i < listeners && i < row.length; i++) {
                if (row[i] == listener) {
                    return i;
                }
            }
            return -1;
        }

        void add(int listener) {
            if (listeners >= 0 && listeners < row.length) {
                row[listeners] = listener;
                listeners++;
            }
        }

        void removeAt(int place) {
            if (place < 0 || place >= listeners) {
                return;
            }
            for (int i = place; i < listeners - 1 && i < row.length - 1; i++) {
                row[i] = row[i + 1];
            }
            listeners--;
        }
    }

    private static final class Rose {
        int patience;
        int petals;
        int count;
        int departures;

        void begin(int itsPatience) {
            patience = itsPatience;
            petals = 0;
            count = 0;
            departures = 0;
        }

        void copy(Rose other) {
            patience = other.patience;
            petals = other.petals;
            count = other.count;
            departures = other.departures;
        }
    }

    /** How the garden stands; a second one takes what only would be. */
    private static final class Garden {
        private final Hedge[] hedges = new Hedge[MOST_HEDGES];
        private final Rose[] roses = new Rose[MOST_ROSES];
        int hedgeCount;
        int roseCount;
        int day;
        int ordersDone;
        int whispers;
        int cycles;
        int departures;

        Garden() {
            for (int i = 0; i < hedges.length; i++) {
                hedges[i] = new Hedge();
            }
            for (int i = 0; i < roses.length; i++) {
                roses[i] = new Rose();
            }
        }

        /** The hedge of this number, or null. */
        Hedge hedge(int number) {
            return number < 0 || number >= hedgeCount || number >= hedges.length ? null : hedges[number];
        }

        /** The rose of this number, or null. */
        Rose rose(int number) {
            return number < 0 || number >= roseCount || number >= roses.length ? null : roses[number];
        }

        void begin(Plan plan) {
            hedgeCount = plan.hedgeCount;
            roseCount = plan.roseCount;
            for (int i = 0; i < hedges.length && i < plan.hushes.length; i++) {
                hedges[i].begin(plan.hushes[i]);
            }
            for (int i = 0; i < roses.length && i < plan.patiences.length; i++) {
                roses[i].begin(plan.patiences[i]);
            }
            day = 0;
            ordersDone = 0;
            whispers = 0;
            cycles = 0;
            departures = 0;
        }

        void copy(Garden other) {
            hedgeCount = other.hedgeCount;
            roseCount = other.roseCount;
            for (int i = 0; i < hedges.length && i < other.hedges.length; i++) {
                hedges[i].copy(other.hedges[i]);
            }
            for (int i = 0; i < roses.length && i < other.roses.length; i++) {
                roses[i].copy(other.roses[i]);
            }
            day = other.day;
            ordersDone = other.ordersDone;
            whispers = other.whispers;
            cycles = other.cycles;
            departures = other.departures;
        }

        /** Whether it could be done, and is. */
        boolean startListening(int listener, int number) {
            Hedge hedge = hedge(number);
            if (hedge == null || listener == number || hedge.placeOf(listener) >= 0) {
                return false;
            }
            hedge.add(listener);
            Rose rose = rose(listener - FIRST_ROSE);
            if (rose != null) {
                rose.count = 0;
            }
            return true;
        }

        /** Whether it could be done, and is. */
        boolean stopListening(int listener, int number) {
            Hedge hedge = hedge(number);
            if (hedge == null || hedge.placeOf(listener) < 0) {
                return false;
            }
            hedge.removeAt(hedge.placeOf(listener));
            return true;
        }

        void roseHears(int listener, int whisperer, int loudness) {
            Rose rose = rose(listener - FIRST_ROSE);
            if (rose == null) {
                return;
            }
            rose.petals += loudness;
            rose.count++;
            if (rose.count == rose.patience) {
                stopListening(listener, whisperer);
                rose.count = 0;
                rose.departures++;
                departures++;
            }
        }

        void endDay() {
            for (int i = 0; i < roses.length; i++) {
                if (roses[i].petals > 0) {
                    roses[i].petals--;
                }
            }
            day++;
        }

        boolean isInRow(int listener, int number) {
            Hedge hedge = hedge(number);
            return hedge != null && hedge.placeOf(listener) >= 0;
        }

        int rowsWith(int listener) {
            int rows = 0;
            for (int i = 0; i < hedgeCount; i++) {
                if (isInRow(listener, i)) {
                    rows++;
                }
            }
            return rows;
        }

        int fullestRose() {
            int fullest = -1;
            int most = -1;
            for (int i = 0; i < roseCount; i++) {
                if (petalsAt(i) > most) {
                    fullest = i;
                    most = petalsAt(i);
                }
            }
            return fullest;
        }

        long petalsInAll() {
            long petals = 0;
            for (int i = 0; i < roseCount; i++) {
                petals += petalsAt(i);
            }
            return petals;
        }

        int petalsAt(int number) {
            Rose rose = rose(number);
            return rose == null ? 0 : rose.petals;
        }

        int departuresAt(int number) {
            Rose rose = rose(number);
            return rose == null ? 0 : rose.departures;
        }

        int heardAt(int number) {
            Hedge hedge = hedge(number);
            return hedge == null ? 0 : hedge.heard;
        }

        int latestAt(int number) {
            Hedge hedge = hedge(number);
            return hedge == null ? 0 : hedge.latest;
        }
    }

    /** One news on its way: its whispers in the order in which they are whispered. */
    private static final class News {
        private final int[] whisperers = new int[MOST_WHISPERS];
        private final int[] hearers = new int[MOST_WHISPERS];
        private final int[] loudnesses = new int[MOST_WHISPERS];
        private int size;
        private final int[] firstLoudnesses = new int[MOST_HEDGES];
        private final boolean[] cameAgain = new boolean[MOST_HEDGES];

        /** Tells it to a hedge; returns how many whispers there are of it. */
        int carry(Garden garden, int hedge, int loudness) {
            for (int i = 0; i < MOST_HEDGES; i++) {
                firstLoudnesses[i] = 0;
                cameAgain[i] = false;
            }
            size = 0;
            hedgeHears(garden, hedge, loudness);
            for (int i = 0; i < MOST_WHISPERS && i < size; i++) {
                if (hearers[i] < FIRST_ROSE) {
                    hedgeHears(garden, hearers[i], loudnesses[i]);
                } else {
                    garden.roseHears(hearers[i], whisperers[i], loudnesses[i]);
                }
            }
            garden.whispers += size;
            return size;
        }

        private void hedgeHears(Garden garden, int number, int loudness) {
            Hedge hedge = garden.hedge(number);
            if (hedge == null || number < 0 || number >= MOST_HEDGES) {
                return;
            }
            if (firstLoudnesses[number] > 0) {
                cameAgain[number] = true;
                garden.cycles++;
                return;
            }
            firstLoudnesses[number] = loudness;
            hedge.heard++;
            hedge.latest = loudness;
            if (loudness - hedge.hush < 1) {
                return;
            }
            for (int place = 0; place < hedge.listeners; place++) {
                whisper(number, hedge.listenerAt(place), loudness - hedge.hush);
            }
        }

        private void whisper(int whisperer, int hearer, int loudness) {
            if (size >= 0 && size < MOST_WHISPERS) {
                whisperers[size] = whisperer;
                hearers[size] = hearer;
                loudnesses[size] = loudness;
                size++;
            }
        }

        int hedgesReached() {
            int reached = 0;
            for (int i = 0; i < firstLoudnesses.length; i++) {
                if (firstLoudnesses[i] > 0) {
                    reached++;
                }
            }
            return reached;
        }

        int firstLoudnessAt(int hedge) {
            return hedge < 0 || hedge >= firstLoudnesses.length ? 0 : firstLoudnesses[hedge];
        }

        boolean cameAgainTo(int hedge) {
            return hedge >= 0 && hedge < cameAgain.length && cameAgain[hedge];
        }
    }

    /** Goes through the steps of a plan, day by day. A test that holds is 1 on the pile, else 0. */
    private static final class Gardener {
        private final News news;
        private final int[] pile = new int[MOST_TOKENS];
        private int height;

        Gardener(News carried) {
            news = carried;
        }

        void letDayPass(Plan plan, Garden garden) {
            height = 0;
            for (int i = 0; i < plan.size && i < MOST_TOKENS; i++) {
                step(garden, plan.acts[i], plan.firsts[i], plan.seconds[i]);
            }
            garden.endDay();
        }

        private void step(Garden garden, Kind act, int first, int second) {
            switch (act) {
                case NUMBER: push(first); break;
                case EVER: push(1); break;
                case DAY: push(garden.day); break;
                case CYCLES: push(garden.cycles); break;
                case WHISPERS: push(garden.whispers); break;
                case HEARD: push(garden.heardAt(first)); break;
                case LATEST: push(garden.latestAt(first)); break;
                case PETALS: push(garden.petalsAt(first - FIRST_ROSE)); break;
                case HEARS: push(oneIf(garden.isInRow(first, second))); break;
                case TURN: push(-pop()); break;
                case NOT: push(oneIf(pop() == 0)); break;
                case LISTEN:
                case LEAVE:
                case TELL:
                    order(garden, act, first, second);
                    break;
                default: join(act); break;
            }
        }

        private void join(Kind act) {
            int right = pop();
            int left = pop();
            push(joined(act, left, right));
        }

        private void order(Garden garden, Kind act, int listener, int hedge) {
            boolean holds = pop() != 0;
            int loudness = act == Kind.TELL ? Math.max(1, Math.min(LOUDEST, pop())) : 0;
            if (!holds) {
                return;
            }
            boolean done = true;
            if (act == Kind.LISTEN) {
                done = garden.startListening(listener, hedge);
            } else if (act == Kind.LEAVE) {
                done = garden.stopListening(listener, hedge);
            } else {
                news.carry(garden, hedge, loudness);
            }
            if (done) {
                garden.ordersDone++;
            }
        }

        private static int joined(Kind act, int left, int right) {
            switch (act) {
                case PLUS: return left + right;
                case MINUS: return left - right;
                case TIMES: return left * right;
                case OVER: return right == 0 ? 0 : left / right;
                case MIN: return Math.min(left, right);
                case MAX: return Math.max(left, right);
                case LESS: return oneIf(left < right);
                case GREATER: return oneIf(left > right);
                case EQUAL: return oneIf(left == right);
                case AT_MOST: return oneIf(left <= right);
                case AT_LEAST: return oneIf(left >= right);
                case AND: return left & right;
                case OR: return left | right;
                default: return 0;
            }
        }

        private static int oneIf(boolean holds) {
            return holds ? 1 : 0;
        }

        private void push(int number) {
            if (height >= 0 && height < pile.length) {
                pile[height] = number;
                height++;
            }
        }

        private int pop() {
            if (height <= 0 || height > pile.length) {
                return 0;
            }
            height--;
            return pile[height];
        }
    }
}
