/** Promises 8 to 10, 12, 29, 33 and 34: days, orders with tests and sums, and what would be. */
public final class DaysTest {
    private static final String HEDGE = "hedge a hush 1;hedge b hush 1;hedge c hush 1;rose r patience 9;rose s patience 2;";

    public static void main(String[] args) {
        sums();
        tests();
        whatTheyTell();
        carriedOut();
        loudnessIsHeld();
        dayByDay();
        inTheirOrder();
        petalsAhead();
        orderedAhead();
        leavingAhead();
        leavingByOrder();
        wrongCalls();
        Checks.finish("DaysTest");
    }

    private static boolean holds(String test) {
        HedgeNews x = Checks.taught(HEDGE + "tell a with 1 when " + test + ";");
        x.passDays(1);
        return x.ordersCarriedOut() == 1;
    }

    private static void dueTest(String test, boolean want) {
        Checks.due(test, holds(test), want);
    }

    private static void dueSum(String sum, int want) {
        String number = want < 0 ? "-" + -(long) want : Integer.toString(want);
        Checks.due(sum + " = " + number, holds(sum + " = " + number), true);
    }

    private static void sums() {
        dueSum("1 + 2 * 3", 7);
        dueSum("2 * 3 + 1", 7);
        dueSum("10 - 3 - 2", 5);
        dueSum("10 - 3 + 2", 9);
        dueSum("100 / 10 / 2", 5);
        dueSum("100 / 10 * 2", 20);
        dueSum("7 * 7 / 2", 24);
        dueSum("2 - 12 / 4 * 2 + 1", -3);
        dueSum("(1 + 2) * 3", 9);
        dueSum("2 * (3 - (4 - 5))", 8);
        dueSum("-7 / 2", -3);
        dueSum("7 / -2", -3);
        dueSum("-7 / -2", 3);
        dueSum("1 / 2", 0);
        dueSum("7 / 0", 0);
        dueSum("-7 / (1 - 1)", 0);
        dueSum("0 / 0", 0);
        dueSum("- -5", 5);
        dueSum("-2 + 3", 1);
        dueSum("-2 * 3", -6);
        dueSum("2 - -3", 5);
        dueSum("-(2 + 3)", -5);
        dueSum("min(2, 1)", 1);
        dueSum("min(-2, 1)", -2);
        dueSum("max(2, 1)", 2);
        dueSum("max(1, 2) * min(3, 4) + 1", 7);
        dueSum("min(1 + 1, 2 * 2) - max(-1, -2)", 3);
        dueSum("000012", 12);
        // wrapping around in 32 bits
        dueSum("65536 * 65536", 0);
        dueSum("65536 * 32767 + 65535 + 1 + 65536 * 32768", 0);
        dueSum("46341 * 46341 - 46340 * 46340", 92681);
        dueTest("46341 * 46341 < 0", true);
        dueTest("65536 * 32768 < 0", true);
        dueTest("65536 * 32768 - 1 > 0", true);
        dueTest("-(65536 * 32768) = 65536 * 32768", true);
        dueTest("65536 * 32768 / -1 = 65536 * 32768", true);
        dueTest("65536 * 32768 / 2 = -65536 * 16384", true);
        dueTest("-(65536 * 32768 - 1) - 1 = 65536 * 32768", true);
    }

    private static void tests() {
        String[] signs = {"<", ">", "=", "<=", ">="};
        boolean[][] want = {{true, false, false, true, false}, {false, false, true, true, true}, {false, true, false, false, true}};
        for (int i = 0; i < signs.length; i++) {
            for (int side = 0; side < 3; side++) {
                dueTest((side + 1) + " " + signs[i] + " 2", want[side][i]);
            }
        }
        dueTest("-1 < 1", true);
        dueTest("not 1 = 1", false);
        dueTest("not not 1 = 1", true);
        String t = "1 = 1";
        String f = "1 = 2";
        for (int bits = 0; bits < 8; bits++) {
            boolean p = (bits & 1) != 0;
            boolean q = (bits & 2) != 0;
            boolean r = (bits & 4) != 0;
            String ps = p ? t : f;
            String qs = q ? t : f;
            String rs = r ? t : f;
            dueTest(ps + " or " + qs + " and " + rs, p || q && r);
            dueTest(ps + " and " + qs + " or " + rs, p && q || r);
            dueTest("[" + ps + " or " + qs + "] and " + rs, (p || q) && r);
            dueTest(ps + " and [" + qs + " or " + rs + "]", p && (q || r));
            dueTest("not " + ps + " and " + qs + " or not " + rs, !p && q || !r);
            dueTest("not " + ps + " or " + qs + " and not " + rs, !p || q && !r);
            dueTest("not [" + ps + " or " + qs + "] or " + rs, !(p || q) || r);
            dueTest(ps + " or " + qs + " or " + rs, p || q || r);
            dueTest(ps + " and " + qs + " and " + rs, p && q && r);
        }
    }

    /** What day, cycles, whispers, heard, latest, petals and hears are, day by day and within a day. */
    private static void whatTheyTell() {
        HedgeNews x = Checks.taught(HEDGE + "tell c with 1 when day = 2 and cycles = 5 and whispers = 17 and heard of a = 4"
            + " and latest of b = 8 and petals of r = 25 and hears r of a and hears b of a and not hears a of c;");
        x.hedgeListens(1, 0);
        x.roseListens(0, 0);
        x.hedgeListens(0, 1);
        for (int i = 0; i < 3; i++) {
            x.tell(0, 10);
        }
        Checks.due("whispers() by hand", x.whispers(), 9);
        Checks.due("cycles() by hand", x.cycles(), 3);
        x.passDays(2);
        Checks.due("ordersCarriedOut()", x.ordersCarriedOut(), 0);
        x.tell(1, 8);
        Checks.due("petalsOf(0)", x.petalsOf(0), 27 - 2 + 6);
        Checks.due("heardBy(0)", x.heardBy(0), 4);
        Checks.due("latestOf(1)", x.latestOf(1), 8);
        HedgeNews y = Checks.taught(HEDGE
            + "tell a with 7 when heard of a = 0 and latest of a = 0 and petals of r = 0 and whispers = 0;"
            + "tell b with 3 when heard of a = 1 and latest of a = 7 and petals of r = 6 and whispers = 2 and cycles = 0;"
            + "tell b with 2 when heard of b = 2 and latest of b = 3 and heard of a = 1 and whispers = 2 and day = 0;"
            + "leave r to a when hears r of a;"
            + "tell a with 5 when hears r of a;"
            + "listen r to b when not hears r of a;"
            + "tell b with 4 when hears r of b and not hears b of b;");
        y.hedgeListens(1, 0);
        y.roseListens(0, 0);
        Checks.due("passDays(1)", y.passDays(1), 3);
        Checks.due("ordersCarriedOut()", y.ordersCarriedOut(), 6);
        Checks.due("petalsOf(0)", y.petalsOf(0), 6 + 3 - 1);
        Checks.due("latestOf(1)", y.latestOf(1), 4);
        HedgeNews z = Checks.taught(HEDGE + "tell a with 9 when cycles < 2;");
        z.hedgeListens(1, 0);
        z.hedgeListens(0, 1);
        Checks.due("passDays(5)", z.passDays(5), 4);
        Checks.due("cycles()", z.cycles(), 2);
    }

    private static void carriedOut() {
        HedgeNews x = Checks.taught(HEDGE + "listen a to a;listen b to a;listen b to a;leave c to a;leave b to a;leave b to a;"
            + "listen r to a;listen r to a;listen s to b when 1 = 2;tell c with 1;tell c with 1 when 2 = 1;");
        Checks.due("passDays(1)", x.passDays(1), 0);
        Checks.due("ordersCarriedOut()", x.ordersCarriedOut(), 4);
        Checks.due("listenersOf(0)", x.listenersOf(0), 1);
        Checks.due("listenersOf(1)", x.listenersOf(1), 0);
        Checks.due("heardBy(2)", x.heardBy(2), 1);
        x.passDays(1);
        Checks.due("ordersCarriedOut() behind two days", x.ordersCarriedOut(), 7);
        x.tell(2, 5);
        x.hedgeListens(2, 0);
        Checks.due("ordersCarriedOut() behind what is done by hand", x.ordersCarriedOut(), 7);
    }

    private static int latestWith(String sum) {
        HedgeNews x = Checks.taught(HEDGE + "tell b with " + sum + ";");
        x.passDays(1);
        Checks.due("ordersCarriedOut() of tell b with " + sum, x.ordersCarriedOut(), 1);
        return x.latestOf(1);
    }

    private static void loudnessIsHeld() {
        Checks.due("with 0", latestWith("0"), 1);
        Checks.due("with -5", latestWith("-5"), 1);
        Checks.due("with 1", latestWith("1"), 1);
        Checks.due("with 99", latestWith("99"), 99);
        Checks.due("with 100", latestWith("100"), 99);
        Checks.due("with 999999", latestWith("999999"), 99);
        Checks.due("with the least sum", latestWith("65536 * 32768"), 1);
        Checks.due("with day + 42", latestWith("day + 42"), 42);
    }

    private static void dayByDay() {
        HedgeNews x = Checks.taught(HEDGE + "listen r to a when day = 1;tell a with day * 2 + 2;leave r to a when day >= 3;");
        Checks.due("passDays(1)", x.passDays(1), 0);
        Checks.due("day()", x.day(), 1);
        Checks.due("petalsOf(0) never goes below 0", x.petalsOf(0), 0);
        Checks.due("passDays(1)", x.passDays(1), 1);
        Checks.due("petalsOf(0)", x.petalsOf(0), 2);
        Checks.due("passDays(2)", x.passDays(2), 2);
        Checks.due("petalsOf(0)", x.petalsOf(0), 2 + 5 - 1 + 7 - 1);
        Checks.due("countOf(0)", x.countOf(0), 3);
        Checks.due("hedgesOf(0)", x.hedgesOf(0), 0);
        Checks.due("ordersCarriedOut()", x.ordersCarriedOut(), 6);
        Checks.due("passDays(11)", x.passDays(11), 0);
        Checks.due("petalsOf(0)", x.petalsOf(0), 1);
        x.passDays(2);
        Checks.due("petalsOf(0)", x.petalsOf(0), 0);
        Checks.due("day()", x.day(), 17);
        Checks.due("passDays(30)", x.passDays(30), 0);
        Checks.due("day()", x.day(), 47);
        Checks.due("whispers()", x.whispers(), 3);
    }

    /** Sixteen orders, each found by its place: the loudness of the latest one stays. */
    private static void inTheirOrder() {
        StringBuilder text = new StringBuilder(HEDGE);
        for (int i = 1; i <= 16; i++) {
            text.append("tell a with ").append(i).append(" when heard of a = day * 16 + ").append(i - 1).append(';');
        }
        HedgeNews x = Checks.taught(text.toString());
        x.passDays(1);
        Checks.due("heardBy(0)", x.heardBy(0), 16);
        Checks.due("latestOf(0)", x.latestOf(0), 16);
        x.passDays(29);
        Checks.due("heardBy(0)", x.heardBy(0), 480);
        Checks.due("ordersCarriedOut()", x.ordersCarriedOut(), 480);
    }

    private static void petalsAhead() {
        String text = HEDGE + "listen r to a;listen s to a;tell a with day + 3;";
        HedgeNews x = Checks.taught(text);
        for (int days = 1; days <= 30; days++) {
            HedgeNews y = Checks.taught(text);
            y.passDays(days);
            Checks.due("petalsAfter(0, " + days + ")", x.petalsAfter(0, days), y.petalsOf(0));
            Checks.due("petalsAfter(1, " + days + ")", x.petalsAfter(1, days), y.petalsOf(1));
        }
        Checks.due("petalsAfter(0, 1)", x.petalsAfter(0, 1), 1);
        Checks.due("petalsAfter(0, 3)", x.petalsAfter(0, 3), 1 + 2 + 3);
        Checks.due("day()", x.day(), 0);
        HedgeNews y = Checks.taught(HEDGE);
        y.roseListens(0, 0);
        y.tell(0, 21);
        Checks.due("petalsAfter(0, 19) without orders", y.petalsAfter(0, 19), 1);
        Checks.due("petalsAfter(0, 30) without orders", y.petalsAfter(0, 30), 0);
    }

    /** What would be follows the same tests from the same numbers: cycles, whispers, heard, latest, petals, hears, day. */
    private static void orderedAhead() {
        String[] tests = {"cycles = 2", "whispers = 6", "heard of a = 2", "latest of b = 29", "latest of a = 30",
            "petals of r = 58", "hears r of a", "not hears s of a", "day = 1", "heard of b = 2 and heard of c = 0"};
        for (String test : tests) {
            String text = HEDGE + "tell c with 41 when " + test + ";";
            HedgeNews x = Checks.taught(text);
            x.passDays(1);
            x.roseListens(0, 0);
            x.hedgeListens(1, 0);
            x.hedgeListens(0, 1);
            x.roseListens(1, 2);
            x.tell(0, 30);
            x.tell(0, 30);
            int ahead = x.petalsAfter(1, 1);
            Checks.due("whispers() ahead of " + test, x.whispers(), 6);
            Checks.due("petalsOf(0) ahead of " + test, x.petalsOf(0), 58);
            Checks.due("petalsAfter(1, 1) with " + test, ahead, 39);
            x.passDays(1);
            Checks.due("petalsOf(1) with " + test, x.petalsOf(1), ahead);
        }
    }

    private static void leavingAhead() {
        // r has patience 9: it leaves on the ninth day; s has patience 2
        HedgeNews x = Checks.taught(HEDGE + "listen r to a when day = 0;listen s to a when day = 0;tell a with 9;");
        Checks.due("daysUntilLeft(0)", x.daysUntilLeft(0), 9);
        Checks.due("daysUntilLeft(1)", x.daysUntilLeft(1), 2);
        x.passDays(1);
        Checks.due("daysUntilLeft(1)", x.daysUntilLeft(1), 1);
        x.passDays(1);
        Checks.due("departures()", x.departures(), 1);
        Checks.due("daysUntilLeft(1) once more than now", x.daysUntilLeft(1), -1);
        Checks.due("daysUntilLeft(0)", x.daysUntilLeft(0), 7);
        x.roseListens(1, 0);
        Checks.due("daysUntilLeft(1)", x.daysUntilLeft(1), 2);
        HedgeNews y = Checks.taught(HEDGE + "listen s to a when day = 0;tell a with 9 when day = 5 or day = 39;");
        Checks.due("daysUntilLeft(1) at the latest", y.daysUntilLeft(1), 40);
        HedgeNews z = Checks.taught(HEDGE + "listen s to a when day = 0;tell a with 9 when day = 5 or day = 40;");
        Checks.due("daysUntilLeft(1) too late", z.daysUntilLeft(1), -1);
        z.passDays(1);
        Checks.due("daysUntilLeft(1) a day on", z.daysUntilLeft(1), 40);
    }

    /** An order to leave is no leaving by itself. */
    private static void leavingByOrder() {
        HedgeNews x = Checks.taught(HEDGE + "listen s to a;tell a with 9;leave s to a;");
        Checks.due("daysUntilLeft(1)", x.daysUntilLeft(1), -1);
        x.passDays(4);
        Checks.due("departures()", x.departures(), 0);
        Checks.due("countOf(1) since it came", x.countOf(1), 1);
        Checks.due("ordersCarriedOut()", x.ordersCarriedOut(), 12);
    }

    private static void wrongCalls() {
        HedgeNews x = Checks.taught(HEDGE + "listen r to a;tell a with 9;");
        int[] noDays = {0, -1, 31, Integer.MIN_VALUE, Integer.MAX_VALUE};
        int[] noRoses = {-1, 2, 8, Integer.MIN_VALUE, Integer.MAX_VALUE};
        for (int no : noDays) {
            Checks.dueThrow("passDays", x, Checks.IAE, () -> x.passDays(no));
            Checks.dueThrow("petalsAfter", x, Checks.IAE, () -> x.petalsAfter(0, no));
            Checks.dueThrow("petalsAfter of none as well", x, Checks.IOOBE, () -> x.petalsAfter(2, no));
        }
        for (int no : noRoses) {
            Checks.dueThrow("petalsAfter", x, Checks.IOOBE, () -> x.petalsAfter(no, 1));
            Checks.dueThrow("daysUntilLeft", x, Checks.IOOBE, () -> x.daysUntilLeft(no));
        }
        Checks.due("day()", x.day(), 0);
    }
}
