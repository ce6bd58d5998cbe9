/** Promises 4 and 5: teach and errorAt; tokens, grammar, depth and the errors 1 to 5. */
public final class TeachTest {
    private static final String AHEAD = "hedge a hush 1;hedge b hush 2;rose r patience 3;";
    private static final String KEYWORDS = "hedge hush rose patience listen leave to tell with when day cycles whispers "
        + "heard latest petals of hears not and or min max";

    public static void main(String[] args) {
        goodGardens();
        tokens();
        grammar();
        depths();
        tokenCount();
        namesToldBefore();
        namesAreTheirSigns();
        namesNotTold();
        tooMany();
        numbers();
        orderOfErrors();
        whatStays();
        beginningAnew();
        Checks.finish("TeachTest");
    }

    private static void goodGardens() {
        Checks.dueError("", 0, -1);
        Checks.dueError(" \n  \n", 0, -1);
        Checks.dueError(AHEAD, 0, -1);
        Checks.dueError("\n hedge\na \n hush\n1\n;\n", 0, -1);
        Checks.dueError("hedge a hush 1;tell a with 3when 1<2;", 0, -1);
        Checks.dueError("hedge a hush 1;tell a with(3)when[1<2];", 0, -1);
        Checks.dueError("hedge a hush 1;tell a with 1when not 1<2and not hears a of a;", 0, -1);
        Checks.dueError("hedge abcdefghij hush 1;hedge a23456789 hush 9;", 0, -1);
        Checks.dueError("hedge hedges hush 1;hedge da hush 1;hedge ma hush 1;hedge day1 hush 1;", 0, -1);
        Checks.dueError(AHEAD + "tell a with 1 when 1 < 2 and 1 > 2 or 1 = 2 and 1 <= 2 or 1 >= 2;", 0, -1);
        Checks.dueError(AHEAD + "tell a with min(1,max(2,3)) + day * cycles / whispers - heard of a * latest of b;", 0, -1);
        Checks.dueError(AHEAD + "leave r to a; listen a to b when hears r of a; tell b with petals of r;", 0, -1);
        Checks.dueError(AHEAD + "tell a with - - -(-1) - -2;", 0, -1);
        Checks.dueError(AHEAD + "tell a with 999999;", 0, -1);
    }

    private static void tokens() {
        Checks.dueErrorAtMark("hedge ^abcdefghijk hush 1;", 1);
        Checks.dueErrorAtMark("hedge a hush ^0000001;", 1);
        Checks.dueErrorAtMark("hedge a hush 1;tell a with ^1234567;", 1);
        Checks.dueErrorAtMark("^hedgea hush 1;", 1);
        Checks.dueErrorAtMark("hedge a hush ^hush1;", 1);
        Checks.dueErrorAtMark("hedge a hush 1^a;", 1);
        Checks.dueErrorAtMark("hedge a^\t hush 1;", 1);
        Checks.dueErrorAtMark("hedge a^\r hush 1;", 1);
        Checks.dueErrorAtMark("hedge a hush 1;^\0", 1);
        Checks.dueErrorAtMark("^Hedge a hush 1;", 1);
        Checks.dueErrorAtMark("hedge a^B hush 1;", 1);
        Checks.dueErrorAtMark("hedge ^_a hush 1;", 1);
        Checks.dueErrorAtMark("hedge ^1a hush 1;", 1);
        Checks.dueErrorAtMark("hedge a hush 1^.0;", 1);
        Checks.dueErrorAtMark("hedge a hush 1;^\u00ff", 1);
        Checks.dueErrorAtMark("hedge a hush 1;^\u00e9dge", 1);
        for (String sign : "! \" # $ % & ' . : ? @ \\ ` { | } ~".split(" ")) {
            Checks.dueErrorAtMark("hedge a hush 1;^" + sign, 1);
        }
        Checks.dueErrorAtMark("hedge a hush 1;tell a with 1 when 1 < ^= 2;", 1);
    }

    private static void grammar() {
        for (String keyword : KEYWORDS.split(" ")) {
            Checks.dueErrorAtMark("hedge ^" + keyword + " hush 1;", 1);
            Checks.dueErrorAtMark("rose ^" + keyword + " patience 1;", 1);
            Checks.dueErrorAtMark(AHEAD + "listen a to ^" + keyword + ";", 1);
        }
        Checks.dueErrorAtMark("^;", 1);
        Checks.dueErrorAtMark("^a;", 1);
        Checks.dueErrorAtMark("^1;", 1);
        Checks.dueErrorAtMark("hedge a hush 1;^;", 1);
        Checks.dueErrorAtMark("hedge a hush 1^", 1);
        Checks.dueErrorAtMark("hedge a hush 1 \n ^", 1);
        Checks.dueErrorAtMark("hedge a ^patience 1;", 1);
        Checks.dueErrorAtMark("rose a ^hush 1;", 1);
        Checks.dueErrorAtMark("hedge a hush ^-1;", 1);
        Checks.dueErrorAtMark("hedge a hush ^(1);", 1);
        Checks.dueErrorAtMark("hedge a hush 1 ^when 1 = 1;", 1);
        Checks.dueErrorAtMark(AHEAD + "listen ^to b;", 1);
        Checks.dueErrorAtMark(AHEAD + "leave a ^b;", 1);
        Checks.dueErrorAtMark(AHEAD + "tell a ^to 1;", 1);
        Checks.dueErrorAtMark(AHEAD + "tell a with ^;", 1);
        Checks.dueErrorAtMark(AHEAD + "tell a with ^a;", 1);
        Checks.dueErrorAtMark(AHEAD + "tell a with 1 ^2;", 1);
        Checks.dueErrorAtMark(AHEAD + "tell a with ^+1;", 1);
        Checks.dueErrorAtMark(AHEAD + "tell a with 1 + ^* 2;", 1);
        Checks.dueErrorAtMark(AHEAD + "tell a with ^[1];", 1);
        Checks.dueErrorAtMark(AHEAD + "tell a with (1^];", 1);
        Checks.dueErrorAtMark(AHEAD + "tell a with 1^);", 1);
        Checks.dueErrorAtMark(AHEAD + "tell a with 1 ^< 2;", 1);
        Checks.dueErrorAtMark(AHEAD + "tell a with min ^1, 2);", 1);
        Checks.dueErrorAtMark(AHEAD + "tell a with min(1^);", 1);
        Checks.dueErrorAtMark(AHEAD + "tell a with max(1, 2^, 3);", 1);
        Checks.dueErrorAtMark(AHEAD + "tell a with max(1^;", 1);
        Checks.dueErrorAtMark(AHEAD + "tell a with heard ^a;", 1);
        Checks.dueErrorAtMark(AHEAD + "tell a with latest of ^1;", 1);
        Checks.dueErrorAtMark(AHEAD + "tell a with 1 when ^;", 1);
        Checks.dueErrorAtMark(AHEAD + "tell a with 1 when 1^;", 1);
        Checks.dueErrorAtMark(AHEAD + "tell a with 1 when 1 ^and 1 = 1;", 1);
        Checks.dueErrorAtMark(AHEAD + "tell a with 1 when 1 = 1 ^= 1;", 1);
        Checks.dueErrorAtMark(AHEAD + "tell a with 1 when (1 ^= 1);", 1);
        Checks.dueErrorAtMark(AHEAD + "tell a with 1 when [1 = 1^);", 1);
        Checks.dueErrorAtMark(AHEAD + "tell a with 1 when [1^] = 1;", 1);
        Checks.dueErrorAtMark(AHEAD + "tell a with 1 when 1 =^< 2;", 1);
        Checks.dueErrorAtMark(AHEAD + "tell a with 1 when 1 <= ^= 2;", 1);
        Checks.dueErrorAtMark(AHEAD + "tell a with 1 when 1 <^> 2;", 1);
        Checks.dueErrorAtMark(AHEAD + "tell a with 1 when 1 < 2 and ^or 1 < 2;", 1);
        Checks.dueErrorAtMark(AHEAD + "tell a with 1 when 1 < 2 ^not 1 < 2;", 1);
        Checks.dueErrorAtMark(AHEAD + "tell a with 1 when not ^;", 1);
        Checks.dueErrorAtMark(AHEAD + "tell a with 1 when hears a ^to b;", 1);
        Checks.dueErrorAtMark(AHEAD + "tell a with 1 when hears ^1 of b;", 1);
        Checks.dueErrorAtMark(AHEAD + "tell a with 1 when hears a of b ^= 1;", 1);
        Checks.dueErrorAtMark(AHEAD + "tell a with 1 when 1 = 1 ^when 1 = 1;", 1);
        Checks.dueErrorAtMark(AHEAD + "listen a to b ^with 1;", 1);
    }

    private static void depths() {
        String tell = AHEAD + "tell a with ";
        String when = tell + "1 when ";
        Checks.dueError(tell + "(".repeat(8) + "1" + ")".repeat(8) + ";", 0, -1);
        Checks.dueErrorAtMark(tell + "(".repeat(8) + "^(1" + ")".repeat(9) + ";", 1);
        Checks.dueError(tell + "-".repeat(8) + "1;", 0, -1);
        Checks.dueErrorAtMark(tell + "-".repeat(8) + "^-1;", 1);
        Checks.dueError(tell + "min(".repeat(8) + "1" + ",1)".repeat(8) + ";", 0, -1);
        Checks.dueErrorAtMark(tell + "min(".repeat(8) + "max^(1" + ",1)".repeat(9) + ";", 1);
        Checks.dueErrorAtMark(tell + "min(1,".repeat(8) + "max^(1" + ",1)".repeat(9) + ";", 1);
        Checks.dueError(when + "not ".repeat(8) + "1=1;", 0, -1);
        Checks.dueErrorAtMark(when + "not ".repeat(8) + "^not 1=1;", 1);
        Checks.dueErrorAtMark(when + "not ".repeat(8) + "^-1=1;", 1);
        Checks.dueErrorAtMark(when + "not ".repeat(8) + "1=^(1);", 1);
        Checks.dueErrorAtMark(when + "not ".repeat(8) + "^[1=1];", 1);
        Checks.dueError(when + "[".repeat(8) + "1=1" + "]".repeat(8) + ";", 0, -1);
        Checks.dueErrorAtMark(when + "[".repeat(8) + "^[1=1" + "]".repeat(9) + ";", 1);
        Checks.dueErrorAtMark(when + "[".repeat(8) + "^not 1=1" + "]".repeat(8) + ";", 1);
        Checks.dueErrorAtMark(when + "[not 1=-(" + "(".repeat(4) + "^(1;", 1);
        // each ends with what it turns, or with its own ) or ]
        Checks.dueError(tell + "-1-".repeat(20) + "1;", 0, -1);
        Checks.dueError(tell + "(1)*".repeat(20) + "1;", 0, -1);
        Checks.dueError(when + "not 1=1 and ".repeat(12) + "1=1;", 0, -1);
        Checks.dueError(when + "[1=1] or ".repeat(12) + "1=1;", 0, -1);
        Checks.dueError(tell + "-".repeat(8) + "1 - " + "-".repeat(8) + "1;", 0, -1);
        Checks.dueError(tell + "-".repeat(8) + "1 * " + "(".repeat(8) + "1" + ")".repeat(8) + ";", 0, -1);
        Checks.dueError(when + "not ".repeat(8) + "1=1 and " + "not ".repeat(8) + "1=1;", 0, -1);
        Checks.dueError(tell + "(1-2-3-4-5-6-7-8-9-10);", 0, -1);
        Checks.dueError(tell + "(".repeat(8) + "1-1" + ")".repeat(8) + ";", 0, -1);
    }

    private static void tokenCount() {
        // 4 and 1 for the hedge, 3 for tell, 391 for the sum and the last ;
        String most = "hedge a hush 1;tell a with 1" + "+1".repeat(195);
        Checks.dueError(most + ";", 0, -1);
        Checks.dueError(most + "; \n ", 0, -1);
        Checks.dueErrorAtMark(most + "; ^;", 1);
        Checks.dueErrorAtMark(most + "; ^tell a with 1;", 1);
        Checks.dueErrorAtMark(most + "; ^hedge", 1);
        Checks.dueErrorAtMark(most + "+^1;", 1);
        Checks.dueErrorAtMark("hedge a hush 1;tell a with -1" + "+1".repeat(195) + "^;", 1);
        Checks.dueErrorAtMark("hedge a hush 1;tell a with -1" + "+1".repeat(195) + "  ^", 1);
        Checks.dueErrorAtMark("hedge a hush 1;tell a with -1" + "+1".repeat(195) + "^!", 1);
        Checks.dueErrorAtMark(most + "^!" + "+1".repeat(200), 1);
    }

    private static void namesToldBefore() {
        Checks.dueErrorAtMark("hedge a hush 1;hedge ^a hush 1;", 2);
        Checks.dueErrorAtMark("hedge a hush 1;rose ^a patience 1;", 2);
        Checks.dueErrorAtMark("rose a patience 1;rose ^a patience 1;", 2);
        Checks.dueErrorAtMark("rose a patience 1;hedge ^a hush 1;", 2);
        Checks.dueErrorAtMark("hedge a1 hush 1;hedge a hush 1;hedge ^a1 hush 1;", 2);
        Checks.dueErrorAtMark("hedge abcdefghij hush 1;hedge abcdefghik hush 1;rose ^abcdefghij patience 1;", 2);
        Checks.dueError("hedge a hush 1;hedge a0 hush 1;hedge aa hush 1;hedge a00 hush 1;hedge b hush 1;", 0, -1);
    }

    /** Two names that differ in one sign are two names, and every sign can stand in one. */
    private static void namesAreTheirSigns() {
        String signs = "abcdefghijklmnopqrstuvwxyz0123456789";
        for (int i = 0; i < signs.length(); i++) {
            char one = signs.charAt(i);
            Checks.dueErrorAtMark("hedge q" + one + " hush 1;hedge ^q" + one + " hush 1;", 2);
            Checks.dueErrorAtMark("hedge q" + one + "345678a0 hush 1;rose ^q" + one + "345678a0 patience 1;", 2);
            for (int j = 0; j < i; j++) {
                char other = signs.charAt(j);
                Checks.dueError("hedge q" + one + " hush 1;hedge q" + other + " hush 1;rose q" + one + "a patience 1;rose q"
                    + other + "a patience 1;hedge q" + one + "7 hush 1;hedge q" + other + "7 hush 1;", 0, -1);
            }
        }
        Checks.dueError("hedge z hush 1;rose zz patience 1;", 0, -1);
    }

    private static void namesNotTold() {
        Checks.dueErrorAtMark(AHEAD + "listen ^c to a;", 3);
        Checks.dueErrorAtMark(AHEAD + "leave ^c to a;", 3);
        Checks.dueErrorAtMark(AHEAD + "listen a to ^c;", 3);
        Checks.dueErrorAtMark(AHEAD + "listen a to ^r;", 3);
        Checks.dueErrorAtMark(AHEAD + "leave r to ^r;", 3);
        Checks.dueErrorAtMark(AHEAD + "tell ^c with 1;", 3);
        Checks.dueErrorAtMark(AHEAD + "tell ^r with 1;", 3);
        Checks.dueErrorAtMark(AHEAD + "tell a with heard of ^c;", 3);
        Checks.dueErrorAtMark(AHEAD + "tell a with heard of ^r;", 3);
        Checks.dueErrorAtMark(AHEAD + "tell a with latest of ^r;", 3);
        Checks.dueErrorAtMark(AHEAD + "tell a with latest of ^c;", 3);
        Checks.dueErrorAtMark(AHEAD + "tell a with petals of ^a;", 3);
        Checks.dueErrorAtMark(AHEAD + "tell a with petals of ^c;", 3);
        Checks.dueErrorAtMark(AHEAD + "tell a with 1 when hears ^c of a;", 3);
        Checks.dueErrorAtMark(AHEAD + "tell a with 1 when hears a of ^c;", 3);
        Checks.dueErrorAtMark(AHEAD + "tell a with 1 when hears r of ^r;", 3);
        Checks.dueErrorAtMark("hedge a hush 1;listen ^b to a;hedge b hush 1;", 3);
        Checks.dueErrorAtMark("hedge a hush 1;tell a with petals of ^r;rose r patience 1;", 3);
        Checks.dueError(AHEAD + "listen a to a;leave a to a;listen r to b;", 0, -1);
        Checks.dueError(AHEAD + "tell a with 1 when hears a of a and hears r of b;", 0, -1);
    }

    private static String many(int from, int to, String line) {
        StringBuilder text = new StringBuilder();
        for (int i = from; i <= to; i++) {
            text.append(line.replace("N", Integer.toString(i)));
        }
        return text.toString();
    }

    private static void tooMany() {
        String hedges = many(1, 8, "hedge hN hush 1;");
        String roses = many(1, 8, "rose rN patience 1;");
        Checks.dueError(hedges + roses, 0, -1);
        Checks.dueErrorAtMark(hedges + "hedge ^h9 hush 1;", 4);
        Checks.dueErrorAtMark(hedges + roses + "rose ^r9 patience 1;", 4);
        Checks.dueErrorAtMark(hedges + roses + "hedge ^h9 hush 0;", 4);
        Checks.dueErrorAtMark(hedges + "hedge ^h1 hush 1;", 2);
        Checks.dueErrorAtMark(hedges + roses + "rose ^h8 patience 1;", 2);
        String orders = hedges + many(1, 5, "listen h1 to h2;leave h1 to h2;tell h1 with 1;");
        Checks.dueError(orders + "tell h1 with 1;", 0, -1);
        Checks.dueErrorAtMark(orders + "tell h1 with 1;^tell h1 with 1;", 4);
        Checks.dueErrorAtMark(orders + "tell h1 with 1;^listen h9 to h1;", 4);
        Checks.dueErrorAtMark(orders + "tell h1 with 1;" + roses + "^leave h1 to h2;", 4);
    }

    private static void numbers() {
        Checks.dueErrorAtMark("hedge a hush ^0;", 5);
        Checks.dueErrorAtMark("hedge a hush ^10;", 5);
        Checks.dueErrorAtMark("hedge a hush ^000000;", 5);
        Checks.dueErrorAtMark("rose a patience ^0;", 5);
        Checks.dueErrorAtMark("rose a patience ^10;", 5);
        Checks.dueErrorAtMark("rose a patience ^999999;", 5);
        HedgeNews x = Checks.taught("hedge a hush 000009;hedge b hush 01;rose r patience 000001;rose s patience 9;");
        Checks.due("hushOf(0)", x.hushOf(0), 9);
        Checks.due("hushOf(1)", x.hushOf(1), 1);
        Checks.due("patienceOf(0)", x.patienceOf(0), 1);
        Checks.due("patienceOf(1)", x.patienceOf(1), 9);
        Checks.dueError("hedge a hush 1;tell a with 0;tell a with 100;", 0, -1);
    }

    private static void orderOfErrors() {
        Checks.dueErrorAtMark("hedge a hush ^0;hedge a hush 1;tell c with 1;", 5);
        Checks.dueErrorAtMark("hedge a hush 1;tell ^c with petals of d;hedge a hush 0;", 3);
        Checks.dueErrorAtMark("hedge a hush 1;hedge ^a hush 0;", 2);
        Checks.dueErrorAtMark("hedge a hush 0;hedge a hush 1;tell c with 1^", 1);
        Checks.dueErrorAtMark("hedge a hush 0;rose b patience ^;", 1);
        Checks.dueErrorAtMark("hedge a hush 0;hedge a hush 1;^!", 1);
        Checks.dueErrorAtMark("listen ^a to b;", 3);
        Checks.dueErrorAtMark("hedge a hush 1;listen a to ^b when hears c of d;", 3);
    }

    private static void whatStays() {
        HedgeNews x = Checks.taught(AHEAD + "listen b to a;listen r to b;tell a with 20;");
        x.passDays(3);
        long before = x.digest();
        String[] wrong = {"hedge a hush 1", "hedge a hush 1;hedge a hush 1;", "tell a with 1;",
            many(1, 9, "hedge hN hush 1;"), "rose a patience 0;"};
        for (int i = 0; i < wrong.length; i++) {
            Checks.due("teach() of " + wrong[i], Checks.teach(x, wrong[i]), i + 1);
            Checks.due("digest() behind an error " + (i + 1), x.digest(), before);
            Checks.due("hushOf(1) behind an error", x.hushOf(1), 2);
            Checks.due("patienceOf(0) behind an error", x.patienceOf(0), 3);
            Checks.due("errorAt() is known", x.errorAt() >= 0, true);
            Checks.dueThrow("trim(1) behind an error", x, Checks.IAE, () -> x.trim(1));
        }
        HedgeNews same = Checks.taught(AHEAD + "listen b to a;listen r to b;tell a with 20;");
        same.passDays(3);
        Checks.due("passDays(2) with the orders of before", x.passDays(2), same.passDays(2));
        Checks.due("digest() then", x.digest(), same.digest());
        Checks.due("teach() of nothing", x.teach(), 0);
        Checks.due("errorAt() then", x.errorAt(), -1);
        Checks.due("hedges() then", x.hedges(), 0);
    }

    private static void beginningAnew() {
        String text = AHEAD + "listen b to a;listen r to b;listen a to b;tell a with 20;";
        HedgeNews x = Checks.taught(text);
        long fresh = x.digest();
        x.passDays(7);
        Checks.due("day() behind 7 days", x.day(), 7);
        Checks.due("cycles() behind 7 days", x.cycles(), 7);
        Checks.due("departures() behind 7 days", x.departures() > 0, true);
        Checks.due("teach() again", Checks.teach(x, text), 0);
        Checks.due("digest() begins anew", x.digest(), fresh);
        Checks.due("day() begins anew", x.day(), 0);
        Checks.due("listenersOf(1) begins anew", x.listenersOf(1), 0);
        x.passDays(7);
        HedgeNews other = Checks.taught(text);
        other.passDays(7);
        Checks.due("digest() behind 7 days again", x.digest(), other.digest());
        Checks.due("daysUntilLeft(0) counts anew", x.daysUntilLeft(0), other.daysUntilLeft(0));
        for (int i = 0; i < 3; i++) {
            String ten = AHEAD + many(1, 10, "tell a with N;");
            Checks.due("teach() of ten orders, for which only this tape counts", Checks.teach(x, ten), 0);
        }
        Checks.due("teach() of another garden", Checks.teach(x, "rose q patience 4;hedge p hush 5;"), 0);
        Checks.due("hedges()", x.hedges(), 1);
        Checks.due("roses()", x.roses(), 1);
        Checks.due("hushOf(0)", x.hushOf(0), 5);
        Checks.due("patienceOf(0)", x.patienceOf(0), 4);
        Checks.due("passDays(5) without orders", x.passDays(5), 0);
        Checks.due("ordersCarriedOut()", x.ordersCarriedOut(), 0);
    }
}
