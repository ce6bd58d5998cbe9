import java.lang.reflect.InvocationTargetException;
import java.lang.reflect.Method;
import java.util.ArrayList;
import java.util.List;

/** All promises: runs of calls, made up from fixed seeds, on the class and on Reference; all answers have to agree. */
public final class OracleTest {
    private static final int RUNS = Integer.getInteger("runs", 400);
    private static final int FIRST_SEED = Integer.getInteger("seed", 1);
    /** What an object answers behind so many calls is free. */
    private static final int MOST_CALLS = 512;
    private static final int MOST_TO_TEACH = 105;
    private static final String[] HEDGES = {"a", "b1", "cyprus", "dogwood789", "e", "f", "g", "h", "i"};
    private static final String[] ROSES = {"r", "s2", "tea", "u", "v", "wild", "x", "y", "z"};
    private static final String[] SNIPPETS = {"hedge", "rose", "hush", "to", "with", "when", "not", "[", "]", "(", ")", "-", "+",
        "*", "/", "<", ">=", "=", ";", ",", "and", "or", "of", "hears", "min", "day", "a", "r", "q", "0", "7", "10", "1234567",
        "abcdefghijk", "!", "\t", "A", "\0", "\u00ff", "tell", "listen", "petals", " ", "\n"};
    private static final Method[] CALLS = callsInOrder();

    private static long random;
    private static int wrong;
    private static int looked;
    private static int gardens;
    private static int errors;
    private static int callsMade;

    public static void main(String[] args) throws Exception {
        for (int run = 0; run < RUNS && wrong < 20; run++) {
            random = 88172645463325252L + 7919L * (FIRST_SEED + run);
            run(FIRST_SEED + run);
        }
        System.out.println("OracleTest: " + looked + " answers looked at, " + gardens + " gardens and " + errors
            + " errors taught, " + wrong + " wrong");
        if (wrong != 0 || gardens == 0 || errors == 0) {
            System.exit(1);
        }
    }

    private static Method[] callsInOrder() {
        List<Method> calls = new ArrayList<>();
        for (Method method : Reference.class.getDeclaredMethods()) {
            if (java.lang.reflect.Modifier.isPublic(method.getModifiers())) {
                calls.add(method);
            }
        }
        // the machine tells them in no order of its own
        calls.sort((one, other) -> one.getName().compareTo(other.getName()));
        return calls.toArray(new Method[0]);
    }

    private static int below(int bound) {
        random ^= random << 13;
        random ^= random >>> 7;
        random ^= random << 17;
        return (int) ((random >>> 20) % bound);
    }

    private static boolean oneIn(int times) {
        return below(times) == 0;
    }

    private static String oneOf(String... all) {
        return all[below(all.length)];
    }

    private static void run(int seed) throws Exception {
        HedgeNews x = new HedgeNews();
        Reference y = new Reference();
        callsMade = 0;
        int teachings = 1 + below(6);
        for (int i = 0; i < teachings && callsMade + MOST_TO_TEACH <= MOST_CALLS; i++) {
            String text = oneIn(3) ? spoiled(garden()) : garden();
            if (text.length() > 1990) {
                continue;
            }
            teach(seed, x, y, text);
            int calls = below(40);
            for (int call = 0; call < calls && callsMade + 2 <= MOST_CALLS; call++) {
                oneCall(seed, x, y);
            }
        }
    }

    private static void teach(int seed, HedgeNews x, Reference y, String text) throws Exception {
        both(seed, x, y, "trim", 0);
        byte[] bytes = text.getBytes(java.nio.charset.StandardCharsets.ISO_8859_1);
        for (int i = 0; i < bytes.length; i += 20) {
            Object[] numbers = new Object[5];
            for (int n = 0; n < 5; n++) {
                int number = 0;
                for (int b = 0; b < 4; b++) {
                    int at = i + 4 * n + b;
                    number = number << 8 | (at < bytes.length ? bytes[at] & 255 : ' ');
                }
                numbers[n] = number;
            }
            both(seed, x, y, "feed", numbers);
        }
        both(seed, x, y, "trim", bytes.length);
        long error = both(seed, x, y, "teach");
        both(seed, x, y, "errorAt");
        both(seed, x, y, "digest");
        if (error == 0) {
            gardens++;
        } else {
            errors++;
        }
    }

    private static void oneCall(int seed, HedgeNews x, Reference y) throws Exception {
        Method method = CALLS[below(CALLS.length)];
        if (oneIn(3)) {
            String name = oneOf("roseListens", "hedgeListens", "tell", "passDays", "roseListens", "hedgeLeaves");
            for (Method other : CALLS) {
                method = other.getName().equals(name) ? other : method;
            }
        }
        Object[] numbers = new Object[method.getParameterCount()];
        for (int i = 0; i < numbers.length; i++) {
            boolean isAmount = i == numbers.length - 1
                && (numbers.length == 1 ? "passDays bestToTell trim" : "tell reach petalsAfter").contains(method.getName());
            numbers[i] = oneIn(25) ? wild() : isAmount ? 1 + below(oneIn(2) ? 30 : 99) : below(oneIn(4) ? 9 : 3);
        }
        both(seed, x, y, method.getName(), numbers);
        both(seed, x, y, "digest");
    }

    private static int wild() {
        return new int[] {-1, 0, 8, 9, 16, 31, 30, 99, 100, Integer.MIN_VALUE, Integer.MAX_VALUE}[below(11)];
    }

    private static long both(int seed, HedgeNews x, Reference y, String name, Object... numbers) throws Exception {
        Class<?>[] types = new Class<?>[numbers.length];
        java.util.Arrays.fill(types, int.class);
        Object got = answer(HedgeNews.class.getMethod(name, types), x, numbers);
        Object want = answer(Reference.class.getMethod(name, types), y, numbers);
        looked++;
        callsMade++;
        if (!got.equals(want)) {
            wrong++;
            System.out.println("seed " + seed + ": " + name + java.util.Arrays.toString(numbers) + " answered " + got
                + ", the reference " + want);
        }
        return want instanceof Number ? ((Number) want).longValue() : -1;
    }

    private static Object answer(Method method, Object object, Object[] numbers) throws Exception {
        try {
            return method.invoke(object, numbers);
        } catch (InvocationTargetException e) {
            return e.getCause().getClass();
        }
    }

    // ---- texts

    private static String garden() {
        StringBuilder text = new StringBuilder();
        int hedges = oneIn(8) ? below(10) : 1 + below(4);
        int roses = oneIn(8) ? below(10) : below(4);
        for (int i = 0; i < hedges; i++) {
            text.append("hedge ").append(HEDGES[i]).append(" hush ").append(number19()).append(gap()).append(';').append(gap());
        }
        for (int i = 0; i < roses; i++) {
            text.append("rose ").append(ROSES[i]).append(" patience ").append(number19()).append(gap()).append(';').append(gap());
        }
        int orders = oneIn(8) ? below(18) : below(8);
        for (int i = 0; i < orders; i++) {
            text.append(order(hedges, roses)).append(';').append(gap());
        }
        return text.toString();
    }

    private static String gap() {
        return oneIn(3) ? oneOf(" ", "\n", " \n ") : "";
    }

    private static String number19() {
        return oneIn(60) ? oneOf("0", "10", "000007") : Integer.toString(1 + below(oneIn(2) ? 2 : 9));
    }

    private static String hedge(int hedges) {
        return oneIn(80) || hedges == 0 ? oneOf("r", "nobody", "i") : HEDGES[below(hedges)];
    }

    private static String rose(int roses) {
        return oneIn(80) ? oneOf("a", "nobody") : roses == 0 ? "r" : ROSES[below(roses)];
    }

    private static String anyone(int hedges, int roses) {
        return oneIn(2) && roses > 0 ? rose(roses) : hedge(hedges);
    }

    private static String order(int hedges, int roses) {
        String text;
        if (oneIn(2)) {
            text = oneOf("listen ", "listen ", "leave ") + anyone(hedges, roses) + " to " + hedge(hedges);
        } else {
            text = "tell " + hedge(hedges) + " with " + sum(hedges, roses, 0);
        }
        return oneIn(2) ? text : text + " when " + test(hedges, roses, 0);
    }

    private static String test(int hedges, int roses, int depth) {
        StringBuilder text = new StringBuilder(single(hedges, roses, depth));
        while (oneIn(3)) {
            text.append(oneOf(" and ", " or ")).append(single(hedges, roses, depth));
        }
        return text.toString();
    }

    private static String single(int hedges, int roses, int depth) {
        switch (below(depth > 5 ? 3 : 6)) {
            case 4: return "not " + single(hedges, roses, depth + 1);
            case 5: return "[" + gap() + test(hedges, roses, depth + 1) + "]" + gap();
            case 3: return "hears " + anyone(hedges, roses) + " of " + hedge(hedges);
            default: return sum(hedges, roses, depth) + gap() + oneOf("<", ">", "=", "<=", ">=") + gap() + sum(hedges, roses, depth);
        }
    }

    private static String sum(int hedges, int roses, int depth) {
        StringBuilder text = new StringBuilder(value(hedges, roses, depth));
        while (oneIn(3)) {
            text.append(gap()).append(oneOf("+", "-", "*", "/")).append(gap()).append(value(hedges, roses, depth));
        }
        return text.toString();
    }

    private static String value(int hedges, int roses, int depth) {
        switch (below(depth > 5 ? 5 : 8)) {
            case 0: return oneOf("day", "cycles", "whispers");
            case 1: return oneOf("heard", "latest") + " of " + hedge(hedges);
            case 2: return roses == 0 ? "day" : "petals of " + rose(roses);
            case 5: return "-" + gap() + value(hedges, roses, depth + 1);
            case 6: return "(" + sum(hedges, roses, depth + 1) + gap() + ")";
            case 7: return oneOf("min", "max") + gap() + "(" + sum(hedges, roses, depth + 1) + "," + sum(hedges, roses, depth + 1) + ")";
            default: return oneIn(10) ? oneOf("999999", "65536*32768", "0") : Integer.toString(below(oneIn(2) ? 10 : 60));
        }
    }

    /** A garden with a few places spoiled: most of them are none, or name what is not told. */
    private static String spoiled(String garden) {
        StringBuilder text = new StringBuilder(garden);
        int spoils = 1 + below(3);
        for (int i = 0; i < spoils; i++) {
            int at = below(text.length() + 1);
            if (oneIn(2)) {
                text.insert(at, oneOf(" ", "") + oneOf(SNIPPETS) + oneOf(" ", ""));
            } else if (at < text.length()) {
                text.delete(at, Math.min(text.length(), at + 1 + below(6)));
            }
        }
        if (oneIn(6)) {
            text.setLength(below(text.length() + 1));
        }
        if (oneIn(10)) {
            text.append("tell a with 1").append("+1".repeat(150 + below(60))).append(';');
        }
        if (oneIn(6)) {
            text.append("tell a with ").append(oneOf("-", "(", "min(", "max(1,").repeat(7 + below(3))).append('1');
        }
        return text.toString();
    }
}
