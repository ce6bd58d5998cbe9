import java.util.ArrayDeque;
import java.util.ArrayList;
import java.util.Arrays;
import java.util.HashSet;
import java.util.List;
import java.util.Set;
import java.util.function.BooleanSupplier;
import java.util.function.IntSupplier;
import java.util.regex.Matcher;
import java.util.regex.Pattern;

/**
 * The document once more, in another way, to hold the class against: the library's lists and lambdas,
 * one pass over the tokens that follows the grammar rule by rule, and names of listeners in the rows.
 */
public final class Reference {
    private static final Set<String> KEYWORDS = new HashSet<>(Arrays.asList(("hedge hush rose patience listen leave to tell "
        + "with when day cycles whispers heard latest petals of hears not and or min max").split(" ")));
    private static final Pattern TOKEN = Pattern.compile("[a-z][a-z0-9]*|[0-9]+|<=|>=|[()\\[\\];,+*/<>=-]");

    /** Error 1, thrown from wherever it is met. */
    private static final class NoGarden extends RuntimeException {
        final int position;

        NoGarden(int position) {
            super(null, null, false, false);
            this.position = position;
        }
    }

    private interface Order {
        boolean carryOut();
    }

    private static final class Told {
        final List<String> hedges = new ArrayList<>();
        final List<String> roses = new ArrayList<>();
        final List<Integer> hush = new ArrayList<>();
        final List<Integer> patience = new ArrayList<>();
        final List<Order> orders = new ArrayList<>();
        final List<BooleanSupplier> tests = new ArrayList<>();
    }

    /** All that days and news change; the orders always work on the state at hand. */
    private static final class State {
        int day;
        int done;
        int whispers;
        int cycles;
        int departures;
        List<List<String>> rows = new ArrayList<>();
        int[] heard = new int[0];
        int[] latest = new int[0];
        int[] petals = new int[0];
        int[] count = new int[0];
        int[] left = new int[0];

        State copy() {
            State other = new State();
            other.day = day;
            other.done = done;
            other.whispers = whispers;
            other.cycles = cycles;
            other.departures = departures;
            for (List<String> row : rows) {
                other.rows.add(new ArrayList<>(row));
            }
            other.heard = heard.clone();
            other.latest = latest.clone();
            other.petals = petals.clone();
            other.count = count.clone();
            other.left = left.clone();
            return other;
        }
    }

    private static final class Whisper {
        final int from;
        final String to;
        final int loudness;

        Whisper(int from, String to, int loudness) {
            this.from = from;
            this.to = to;
            this.loudness = loudness;
        }
    }

    private StringBuilder tape = new StringBuilder();
    private int errorAt = -1;
    private Told told = new Told();
    private State s = new State();
    private int[] firstHeard = new int[0];
    private Set<Integer> again = new HashSet<>();

    // reading
    private List<String> words;
    private List<Integer> places;
    private int at;
    private Told draft;
    private int error;
    private int errorToken;

    public int feed(int a, int b, int c, int d, int e) {
        if (tape.length() + 20 > 2000) {
            throw new IllegalStateException();
        }
        for (int number : new int[] {a, b, c, d, e}) {
            tape.append((char) (number >>> 24)).append((char) (number >> 16 & 255));
            tape.append((char) (number >> 8 & 255)).append((char) (number & 255));
        }
        return tape.length();
    }

    public int trim(int n) {
        if (n < 0 || n > tape.length()) {
            throw new IllegalArgumentException();
        }
        tape.setLength(n);
        return n;
    }

    public int teach() {
        String text = tape.toString();
        tape.setLength(0);
        split(text);
        at = 0;
        error = 0;
        draft = new Told();
        try {
            while (!is("")) {
                line();
            }
        } catch (NoGarden e) {
            errorAt = e.position;
            return 1;
        }
        if (error != 0) {
            errorAt = places.get(errorToken);
            return error;
        }
        errorAt = -1;
        told = draft;
        s = new State();
        for (int i = 0; i < told.hedges.size(); i++) {
            s.rows.add(new ArrayList<>());
        }
        s.heard = new int[told.hedges.size()];
        s.latest = new int[told.hedges.size()];
        s.petals = new int[told.roses.size()];
        s.count = new int[told.roses.size()];
        s.left = new int[told.roses.size()];
        return 0;
    }

    /** The end is an empty word, what is no token is a word of a blank. */
    private void split(String text) {
        words = new ArrayList<>();
        places = new ArrayList<>();
        Matcher matcher = TOKEN.matcher(text);
        int from = 0;
        while (true) {
            while (from < text.length() && (text.charAt(from) == ' ' || text.charAt(from) == '\n')) {
                from++;
            }
            places.add(from);
            if (from == text.length()) {
                words.add("");
                return;
            }
            matcher.region(from, text.length());
            if (words.size() == 400 || !matcher.lookingAt() || isTooLong(matcher.group())) {
                words.add(" ");
                return;
            }
            words.add(matcher.group());
            from = matcher.end();
        }
    }

    private static boolean isTooLong(String word) {
        return word.length() > (Character.isDigit(word.charAt(0)) ? 6 : 10);
    }

    private boolean is(String word) {
        return words.get(at).equals(word);
    }

    private boolean isOneOf(String... all) {
        return Arrays.asList(all).contains(words.get(at));
    }

    private RuntimeException wrong() {
        return new NoGarden(places.get(at));
    }

    private void need(String word) {
        if (!is(word)) {
            throw wrong();
        }
        at++;
    }

    private String taken() {
        return words.get(at++);
    }

    private void note(int number, int token) {
        if (error == 0) {
            error = number;
            errorToken = token;
        }
    }

    private String name() {
        String word = words.get(at);
        if (word.isEmpty() || !(word.charAt(0) >= 'a' && word.charAt(0) <= 'z') || KEYWORDS.contains(word)) {
            throw wrong();
        }
        return taken();
    }

    private int number() {
        String word = words.get(at);
        if (word.isEmpty() || !Character.isDigit(word.charAt(0))) {
            throw wrong();
        }
        return Integer.parseInt(taken());
    }

    private void line() {
        if (isOneOf("hedge", "rose")) {
            plant();
        } else if (isOneOf("listen", "leave", "tell")) {
            order();
        } else {
            throw wrong();
        }
        need(";");
    }

    private void plant() {
        boolean isHedge = taken().equals("hedge");
        String name = name();
        if (draft.hedges.contains(name) || draft.roses.contains(name)) {
            note(2, at - 1);
        }
        List<String> all = isHedge ? draft.hedges : draft.roses;
        if (all.size() == 8) {
            note(4, at - 1);
        }
        all.add(name);
        need(isHedge ? "hush" : "patience");
        int number = number();
        if (number < 1 || number > 9) {
            note(5, at - 1);
        }
        (isHedge ? draft.hush : draft.patience).add(number);
    }

    private int hedge() {
        int hedge = draft.hedges.indexOf(name());
        if (hedge < 0) {
            note(3, at - 1);
        }
        return hedge;
    }

    private int rose() {
        int rose = draft.roses.indexOf(name());
        if (rose < 0) {
            note(3, at - 1);
        }
        return rose;
    }

    private String anyone() {
        String name = name();
        if (!draft.hedges.contains(name) && !draft.roses.contains(name)) {
            note(3, at - 1);
        }
        return name;
    }

    private void order() {
        if (draft.orders.size() == 16) {
            note(4, at);
        }
        String word = taken();
        if (word.equals("tell")) {
            int hedge = hedge();
            need("with");
            IntSupplier sum = sum(0);
            draft.orders.add(() -> {
                carry(hedge, Math.max(1, Math.min(99, sum.getAsInt())));
                return true;
            });
        } else {
            String who = anyone();
            need("to");
            int hedge = hedge();
            boolean comes = word.equals("listen");
            draft.orders.add(() -> comes ? comes(who, hedge) : s.rows.get(hedge).remove(who));
        }
        BooleanSupplier test = () -> true;
        if (is("when")) {
            at++;
            test = test(0);
        }
        draft.tests.add(test);
    }

    private BooleanSupplier test(int depth) {
        BooleanSupplier left = both(depth);
        while (is("or")) {
            at++;
            BooleanSupplier l = left;
            BooleanSupplier r = both(depth);
            left = () -> l.getAsBoolean() | r.getAsBoolean();
        }
        return left;
    }

    private BooleanSupplier both(int depth) {
        BooleanSupplier left = single(depth);
        while (is("and")) {
            at++;
            BooleanSupplier l = left;
            BooleanSupplier r = single(depth);
            left = () -> l.getAsBoolean() & r.getAsBoolean();
        }
        return left;
    }

    /** Takes a token behind which it is deeper. */
    private int deeper(String word, int depth) {
        if (depth == 8) {
            throw wrong();
        }
        need(word);
        return depth + 1;
    }

    private BooleanSupplier single(int depth) {
        if (is("not")) {
            BooleanSupplier turned = single(deeper("not", depth));
            return () -> !turned.getAsBoolean();
        }
        if (is("[")) {
            BooleanSupplier inside = test(deeper("[", depth));
            need("]");
            return inside;
        }
        if (is("hears")) {
            at++;
            String who = anyone();
            need("of");
            int hedge = hedge();
            return () -> s.rows.get(hedge).contains(who);
        }
        IntSupplier left = sum(depth);
        if (!isOneOf("<", ">", "=", "<=", ">=")) {
            throw wrong();
        }
        String sign = taken();
        IntSupplier right = sum(depth);
        return () -> {
            int order = Integer.compare(left.getAsInt(), right.getAsInt());
            return order == 0 ? sign.contains("=") : sign.contains(order < 0 ? "<" : ">");
        };
    }

    private IntSupplier sum(int depth) {
        IntSupplier left = product(depth);
        while (isOneOf("+", "-")) {
            boolean plus = taken().equals("+");
            IntSupplier l = left;
            IntSupplier r = product(depth);
            left = () -> plus ? l.getAsInt() + r.getAsInt() : l.getAsInt() - r.getAsInt();
        }
        return left;
    }

    private IntSupplier product(int depth) {
        IntSupplier left = value(depth);
        while (isOneOf("*", "/")) {
            boolean times = taken().equals("*");
            IntSupplier l = left;
            IntSupplier r = value(depth);
            left = () -> times ? l.getAsInt() * r.getAsInt() : quotient(l.getAsInt(), r.getAsInt());
        }
        return left;
    }

    private static int quotient(long left, long right) {
        return right == 0 ? 0 : (int) (left / right);
    }

    private IntSupplier value(int depth) {
        String word = words.get(at);
        switch (word) {
            case "day": at++; return () -> s.day;
            case "cycles": at++; return () -> s.cycles;
            case "whispers": at++; return () -> s.whispers;
            case "heard":
            case "latest":
            case "petals": return of(word);
            case "-":
                IntSupplier turned = value(deeper("-", depth));
                return () -> -turned.getAsInt();
            case "(":
                IntSupplier inside = sum(deeper("(", depth));
                need(")");
                return inside;
            case "min":
            case "max": return ofTwo(word, depth);
            default:
                int number = number();
                return () -> number;
        }
    }

    private IntSupplier of(String word) {
        at++;
        need("of");
        if (word.equals("petals")) {
            int rose = rose();
            return () -> s.petals[rose];
        }
        int hedge = hedge();
        return () -> word.equals("heard") ? s.heard[hedge] : s.latest[hedge];
    }

    private IntSupplier ofTwo(String word, int depth) {
        at++;
        int inside = deeper("(", depth);
        IntSupplier left = sum(inside);
        need(",");
        IntSupplier right = sum(inside);
        need(")");
        return () -> word.equals("min") ? Math.min(left.getAsInt(), right.getAsInt()) : Math.max(left.getAsInt(), right.getAsInt());
    }

    public int errorAt() {
        return errorAt;
    }

    // what happens

    private boolean comes(String who, int hedge) {
        if (s.rows.get(hedge).contains(who) || told.hedges.get(hedge).equals(who)) {
            return false;
        }
        s.rows.get(hedge).add(who);
        if (told.roses.contains(who)) {
            s.count[told.roses.indexOf(who)] = 0;
        }
        return true;
    }

    private int carry(int hedge, int loudness) {
        firstHeard = new int[told.hedges.size()];
        again = new HashSet<>();
        ArrayDeque<Whisper> way = new ArrayDeque<>();
        int all = hears(hedge, loudness, way);
        while (!way.isEmpty()) {
            Whisper next = way.poll();
            int other = told.hedges.indexOf(next.to);
            if (other >= 0) {
                all += hears(other, next.loudness, way);
                continue;
            }
            int rose = told.roses.indexOf(next.to);
            s.petals[rose] += next.loudness;
            if (++s.count[rose] == told.patience.get(rose)) {
                s.rows.get(next.from).remove(next.to);
                s.count[rose] = 0;
                s.left[rose]++;
                s.departures++;
            }
        }
        s.whispers += all;
        return all;
    }

    private int hears(int hedge, int loudness, ArrayDeque<Whisper> way) {
        if (firstHeard[hedge] > 0) {
            s.cycles++;
            again.add(hedge);
            return 0;
        }
        firstHeard[hedge] = loudness;
        s.heard[hedge]++;
        s.latest[hedge] = loudness;
        int quieter = loudness - told.hush.get(hedge);
        if (quieter < 1) {
            return 0;
        }
        for (String listener : s.rows.get(hedge)) {
            way.add(new Whisper(hedge, listener, quieter));
        }
        return s.rows.get(hedge).size();
    }

    private void oneDay() {
        for (int i = 0; i < told.orders.size(); i++) {
            if (told.tests.get(i).getAsBoolean() && told.orders.get(i).carryOut()) {
                s.done++;
            }
        }
        for (int i = 0; i < s.petals.length; i++) {
            s.petals[i] = Math.max(0, s.petals[i] - 1);
        }
        s.day++;
    }

    // what is asked

    private int h(int hedge) {
        if (hedge < 0 || hedge >= told.hedges.size()) {
            throw new IndexOutOfBoundsException();
        }
        return hedge;
    }

    private int r(int rose) {
        if (rose < 0 || rose >= told.roses.size()) {
            throw new IndexOutOfBoundsException();
        }
        return rose;
    }

    private static int from1(int number, int to) {
        if (number < 1 || number > to) {
            throw new IllegalArgumentException();
        }
        return number;
    }

    private static void can(boolean itCan) {
        if (!itCan) {
            throw new IllegalStateException();
        }
    }

    public int hedges() {
        return told.hedges.size();
    }

    public int roses() {
        return told.roses.size();
    }

    public int day() {
        return s.day;
    }

    public int ordersCarriedOut() {
        return s.done;
    }

    public int whispers() {
        return s.whispers;
    }

    public int cycles() {
        return s.cycles;
    }

    public int departures() {
        return s.departures;
    }

    public int hushOf(int hedge) {
        return told.hush.get(h(hedge));
    }

    public int heardBy(int hedge) {
        return s.heard[h(hedge)];
    }

    public int latestOf(int hedge) {
        return s.latest[h(hedge)];
    }

    public int listenersOf(int hedge) {
        return s.rows.get(h(hedge)).size();
    }

    public int hedgeInRow(int hedge, int other) {
        return s.rows.get(h(other)).indexOf(told.hedges.get(h(hedge)));
    }

    public int roseInRow(int rose, int hedge) {
        return s.rows.get(h(hedge)).indexOf(told.roses.get(r(rose)));
    }

    public int patienceOf(int rose) {
        return told.patience.get(r(rose));
    }

    public int petalsOf(int rose) {
        return s.petals[r(rose)];
    }

    public int countOf(int rose) {
        return s.count[r(rose)];
    }

    public int hedgesOf(int rose) {
        String name = told.roses.get(r(rose));
        return (int) s.rows.stream().filter(row -> row.contains(name)).count();
    }

    public int fullest() {
        int most = Arrays.stream(s.petals).max().orElse(-1);
        for (int i = 0; i < s.petals.length; i++) {
            if (s.petals[i] == most) {
                return i;
            }
        }
        return -1;
    }

    public int hedgeListens(int hedge, int other) {
        can(comes(told.hedges.get(h(hedge)), h(other)));
        return s.rows.get(other).size() - 1;
    }

    public int roseListens(int rose, int hedge) {
        can(comes(told.roses.get(r(rose)), h(hedge)));
        return s.rows.get(hedge).size() - 1;
    }

    public int hedgeLeaves(int hedge, int other) {
        can(s.rows.get(h(other)).remove(told.hedges.get(h(hedge))));
        return s.rows.get(other).size();
    }

    public int roseLeaves(int rose, int hedge) {
        can(s.rows.get(h(hedge)).remove(told.roses.get(r(rose))));
        return s.rows.get(hedge).size();
    }

    public int tell(int hedge, int loudness) {
        return carry(h(hedge), from1(loudness, 99));
    }

    public int passDays(int days) {
        int before = s.whispers;
        for (int i = 0; i < from1(days, 30); i++) {
            oneDay();
        }
        return s.whispers - before;
    }

    private interface Trial {
        int answer();
    }

    private int tried(Trial trial) {
        State kept = s;
        s = s.copy();
        int answer = trial.answer();
        s = kept;
        return answer;
    }

    public int reach(int hedge, int loudness) {
        h(hedge);
        from1(loudness, 99);
        tried(() -> carry(hedge, loudness));
        return (int) Arrays.stream(firstHeard).filter(loud -> loud > 0).count();
    }

    public int loudnessAt(int hedge, int other) {
        h(hedge);
        h(other);
        tried(() -> carry(hedge, 99));
        return firstHeard[other];
    }

    public boolean comesBack(int hedge) {
        h(hedge);
        tried(() -> carry(hedge, 99));
        return again.contains(hedge);
    }

    public int petalsAfter(int rose, int days) {
        r(rose);
        from1(days, 30);
        return tried(() -> {
            passDays(days);
            return s.petals[rose];
        });
    }

    public int daysUntilLeft(int rose) {
        int now = s.left[r(rose)];
        return tried(() -> {
            for (int days = 1; days <= 40; days++) {
                oneDay();
                if (s.left[rose] > now) {
                    return days;
                }
            }
            return -1;
        });
    }

    public int bestToTell(int loudness) {
        from1(loudness, 99);
        int best = -1;
        int most = -1;
        for (int i = 0; i < told.hedges.size(); i++) {
            int hedge = i;
            int petals = tried(() -> {
                carry(hedge, loudness);
                return Arrays.stream(s.petals).sum();
            });
            if (petals > most) {
                most = petals;
                best = hedge;
            }
        }
        return best;
    }

    public double meanPetals() {
        return Arrays.stream(s.petals).average().orElse(0);
    }

    public long digest() {
        List<Integer> all = new ArrayList<>(Arrays.asList(hedges(), roses(), day(), ordersCarriedOut(), whispers(),
            cycles(), departures(), fullest(), bestToTell(20)));
        for (int hedge = 0; hedge < hedges(); hedge++) {
            all.addAll(Arrays.asList(heardBy(hedge), latestOf(hedge), listenersOf(hedge)));
            for (String name : told.hedges) {
                all.add(s.rows.get(hedge).indexOf(name));
            }
            for (String name : told.roses) {
                all.add(s.rows.get(hedge).indexOf(name));
            }
        }
        for (int rose = 0; rose < roses(); rose++) {
            all.addAll(Arrays.asList(petalsOf(rose), countOf(rose), hedgesOf(rose)));
        }
        long d = 1063;
        for (int x : all) {
            d = d * 31 + x;
        }
        return d;
    }
}
