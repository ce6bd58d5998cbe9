/** Gardens that the tests of the bounds share, and what a test or a sum of the language comes to. */
final class Gardens {
    private Gardens() {
    }

    /** Hedges h0, h1, .. with hush 1. */
    static String hedges(int count) {
        StringBuilder text = new StringBuilder();
        for (int i = 0; i < count; i++) {
            text.append("hedge h").append(i).append(" hush 1;");
        }
        return text.toString();
    }

    /** Roses r0, r1, .. with patience 9. */
    static String roses(int count) {
        StringBuilder text = new StringBuilder();
        for (int i = 0; i < count; i++) {
            text.append("rose r").append(i).append(" patience 9;");
        }
        return text.toString();
    }

    /** A sum that comes to this number, and wraps around nowhere on the way. */
    static String value(int number) {
        int positive = number < 0 ? -(number + 1) : number;
        int high = positive / 65536;
        int low = positive % 65536;
        return number < 0 ? "(0 - " + high + " * 65536 - " + low + " - 1)" : "(" + high + " * 65536 + " + low + ")";
    }

    static void dueTest(String test, boolean want) {
        HedgeNews x = Checks.taught("hedge a hush 1;tell a with 1 when " + test + ";");
        x.passDays(1);
        Checks.due(test, x.ordersCarriedOut() == 1, want);
    }

    static void dueValue(String sum, int want) {
        dueTest(sum + " = " + value(want), true);
        dueTest(sum + " > " + value(want), false);
        dueTest(sum + " < " + value(want), false);
    }

    interface Numbered {
        void call(HedgeNews x, int number);
    }

    /** There are as many hedges as were told, from 0 on, and no others: with 0, 1, 3 and 8 of them. */
    static void dueNoHedge(String what, Numbered call) {
        dueNone(what, new HedgeNews(), 0, call);
        for (int count : new int[] {0, 1, 3, 8}) {
            dueNone(what, Checks.taught(hedges(count) + roses(8)), count, call);
        }
        HedgeNews x = Checks.taught(hedges(8));
        Checks.teach(x, hedges(3) + roses(8));
        dueNone(what + " when there were more", x, 3, call);
    }

    /** The same of roses. */
    static void dueNoRose(String what, Numbered call) {
        dueNone(what, new HedgeNews(), 0, call);
        for (int count : new int[] {0, 1, 3, 8}) {
            dueNone(what, Checks.taught(hedges(8) + roses(count)), count, call);
        }
        HedgeNews x = Checks.taught(roses(8));
        Checks.teach(x, hedges(8) + roses(3));
        dueNone(what + " when there were more", x, 3, call);
    }

    private static void dueNone(String what, HedgeNews x, int count, Numbered call) {
        for (int no : new int[] {-1, count, count + 1, 8, 16, Integer.MIN_VALUE, Integer.MAX_VALUE}) {
            Checks.dueThrow(what + " with " + no + " of " + count, x, Checks.IOOBE, () -> call.call(x, no));
        }
        for (int number = 0; number < count; number += count - 1 == 0 ? 1 : count - 1) {
            Checks.due(what + " with " + number + " of " + count + " finds it", finds(x, number, call), true);
        }
    }

    private static boolean finds(HedgeNews x, int number, Numbered call) {
        try {
            call.call(x, number);
            return true;
        } catch (IllegalStateException e) {
            // it is there, but there is nothing for it to do
            return true;
        } catch (IndexOutOfBoundsException e) {
            return false;
        }
    }

    /** The call takes 1 to the most, and refuses what is less or more. */
    static void dueOneTo(String what, int most, Numbered call) {
        HedgeNews x = Checks.taught(hedges(1) + roses(1) + "listen r0 to h0;tell h0 with 50;");
        for (int no : new int[] {0, -1, most + 1, 256 + 1, Integer.MIN_VALUE, Integer.MAX_VALUE}) {
            Checks.dueThrow(what + " with " + no, x, Checks.IAE, () -> call.call(x, no));
        }
        for (int number : new int[] {1, most}) {
            Checks.due(what + " with " + number + " is taken", takes(x, number, call), true);
        }
    }

    private static boolean takes(HedgeNews x, int number, Numbered call) {
        try {
            call.call(x, number);
            return true;
        } catch (IllegalArgumentException e) {
            return false;
        }
    }
}
