/** Promises 6, 7, 13, 16 to 19, 22 and 24 to 27: hedges, roses, and who listens where. */
public final class ListenersTest {
    private static final String GARDEN = "hedge a hush 2;rose r patience 7;hedge b hush 9;hedge c hush 1;rose s patience 1;";
    private static final int[] NO_HEDGE = {-1, 3, 8, 9, Integer.MIN_VALUE, Integer.MAX_VALUE};
    private static final int[] NO_ROSE = {-1, 2, 8, 9, Integer.MIN_VALUE, Integer.MAX_VALUE};

    public static void main(String[] args) {
        whatWasTold();
        noSuchHedge();
        noSuchRose();
        listening();
        leaving();
        fullRow();
        noHedgesAtAll();
        Checks.finish("ListenersTest");
    }

    private static void whatWasTold() {
        HedgeNews x = Checks.taught(GARDEN);
        Checks.due("hedges()", x.hedges(), 3);
        Checks.due("roses()", x.roses(), 2);
        Checks.due("hushOf(0)", x.hushOf(0), 2);
        Checks.due("hushOf(1)", x.hushOf(1), 9);
        Checks.due("hushOf(2)", x.hushOf(2), 1);
        Checks.due("patienceOf(0)", x.patienceOf(0), 7);
        Checks.due("patienceOf(1)", x.patienceOf(1), 1);
        for (int h = 0; h < 3; h++) {
            Checks.due("listenersOf", x.listenersOf(h), 0);
            Checks.due("heardBy", x.heardBy(h), 0);
            Checks.due("latestOf", x.latestOf(h), 0);
        }
        for (int r = 0; r < 2; r++) {
            Checks.due("hedgesOf", x.hedgesOf(r), 0);
            Checks.due("petalsOf", x.petalsOf(r), 0);
            Checks.due("countOf", x.countOf(r), 0);
        }
    }

    private static void noSuchHedge() {
        HedgeNews x = Checks.taught(GARDEN);
        for (int no : NO_HEDGE) {
            Checks.dueThrow("hushOf", x, Checks.IOOBE, () -> x.hushOf(no));
            Checks.dueThrow("heardBy", x, Checks.IOOBE, () -> x.heardBy(no));
            Checks.dueThrow("latestOf", x, Checks.IOOBE, () -> x.latestOf(no));
            Checks.dueThrow("listenersOf", x, Checks.IOOBE, () -> x.listenersOf(no));
            Checks.dueThrow("hedgeInRow of none", x, Checks.IOOBE, () -> x.hedgeInRow(no, 0));
            Checks.dueThrow("hedgeInRow in none", x, Checks.IOOBE, () -> x.hedgeInRow(0, no));
            Checks.dueThrow("roseInRow in none", x, Checks.IOOBE, () -> x.roseInRow(0, no));
            Checks.dueThrow("hedgeListens of none", x, Checks.IOOBE, () -> x.hedgeListens(no, 0));
            Checks.dueThrow("hedgeListens to none", x, Checks.IOOBE, () -> x.hedgeListens(0, no));
            Checks.dueThrow("hedgeListens, both none", x, Checks.IOOBE, () -> x.hedgeListens(no, no));
            Checks.dueThrow("roseListens to none", x, Checks.IOOBE, () -> x.roseListens(0, no));
            Checks.dueThrow("hedgeLeaves of none", x, Checks.IOOBE, () -> x.hedgeLeaves(no, 0));
            Checks.dueThrow("hedgeLeaves, to none", x, Checks.IOOBE, () -> x.hedgeLeaves(0, no));
            Checks.dueThrow("hedgeLeaves, both none", x, Checks.IOOBE, () -> x.hedgeLeaves(no, no));
            Checks.dueThrow("roseLeaves, to none", x, Checks.IOOBE, () -> x.roseLeaves(0, no));
        }
    }

    private static void noSuchRose() {
        HedgeNews x = Checks.taught(GARDEN);
        for (int no : NO_ROSE) {
            Checks.dueThrow("patienceOf", x, Checks.IOOBE, () -> x.patienceOf(no));
            Checks.dueThrow("petalsOf", x, Checks.IOOBE, () -> x.petalsOf(no));
            Checks.dueThrow("countOf", x, Checks.IOOBE, () -> x.countOf(no));
            Checks.dueThrow("hedgesOf", x, Checks.IOOBE, () -> x.hedgesOf(no));
            Checks.dueThrow("roseInRow of none", x, Checks.IOOBE, () -> x.roseInRow(no, 0));
            Checks.dueThrow("roseListens of none", x, Checks.IOOBE, () -> x.roseListens(no, 0));
            Checks.dueThrow("roseListens, both none", x, Checks.IOOBE, () -> x.roseListens(no, 3));
            Checks.dueThrow("roseLeaves of none", x, Checks.IOOBE, () -> x.roseLeaves(no, 0));
        }
    }

    private static void listening() {
        HedgeNews x = Checks.taught(GARDEN);
        Checks.due("roseListens(1, 0)", x.roseListens(1, 0), 0);
        Checks.due("hedgeListens(2, 0)", x.hedgeListens(2, 0), 1);
        Checks.due("roseListens(0, 0)", x.roseListens(0, 0), 2);
        Checks.due("hedgeListens(1, 0)", x.hedgeListens(1, 0), 3);
        Checks.due("hedgeListens(0, 1)", x.hedgeListens(0, 1), 0);
        Checks.due("roseListens(1, 2)", x.roseListens(1, 2), 0);
        Checks.dueThrow("a hedge listens to itself", x, Checks.ISE, () -> x.hedgeListens(0, 0));
        Checks.dueThrow("a hedge listens once more", x, Checks.ISE, () -> x.hedgeListens(2, 0));
        Checks.dueThrow("a rose listens once more", x, Checks.ISE, () -> x.roseListens(0, 0));
        Checks.due("listenersOf(0)", x.listenersOf(0), 4);
        Checks.due("listenersOf(1)", x.listenersOf(1), 1);
        Checks.due("listenersOf(2)", x.listenersOf(2), 1);
        Checks.due("hedgeInRow(2, 0)", x.hedgeInRow(2, 0), 1);
        Checks.due("hedgeInRow(1, 0)", x.hedgeInRow(1, 0), 3);
        Checks.due("hedgeInRow(0, 1)", x.hedgeInRow(0, 1), 0);
        Checks.due("hedgeInRow(2, 1)", x.hedgeInRow(2, 1), -1);
        Checks.due("hedgeInRow(0, 0)", x.hedgeInRow(0, 0), -1);
        Checks.due("roseInRow(1, 0)", x.roseInRow(1, 0), 0);
        Checks.due("roseInRow(0, 0)", x.roseInRow(0, 0), 2);
        Checks.due("roseInRow(0, 1)", x.roseInRow(0, 1), -1);
        Checks.due("roseInRow(1, 2)", x.roseInRow(1, 2), 0);
        Checks.due("hedgesOf(0)", x.hedgesOf(0), 1);
        Checks.due("hedgesOf(1)", x.hedgesOf(1), 2);
        Checks.due("ordersCarriedOut() is not by hand", x.ordersCarriedOut(), 0);
    }

    private static void leaving() {
        HedgeNews x = Checks.taught(GARDEN);
        Checks.dueThrow("a hedge leaves where it is not", x, Checks.ISE, () -> x.hedgeLeaves(1, 0));
        Checks.dueThrow("a hedge leaves itself", x, Checks.ISE, () -> x.hedgeLeaves(1, 1));
        Checks.dueThrow("a rose leaves where it is not", x, Checks.ISE, () -> x.roseLeaves(1, 0));
        x.roseListens(1, 0);
        x.hedgeListens(2, 0);
        x.roseListens(0, 0);
        x.hedgeListens(1, 0);
        x.hedgeListens(0, 2);
        Checks.due("hedgeLeaves(2, 0)", x.hedgeLeaves(2, 0), 3);
        Checks.due("hedgeInRow(2, 0)", x.hedgeInRow(2, 0), -1);
        Checks.due("roseInRow(1, 0)", x.roseInRow(1, 0), 0);
        Checks.due("roseInRow(0, 0)", x.roseInRow(0, 0), 1);
        Checks.due("hedgeInRow(1, 0)", x.hedgeInRow(1, 0), 2);
        Checks.due("hedgeInRow(0, 2) stays", x.hedgeInRow(0, 2), 0);
        Checks.due("roseLeaves(1, 0)", x.roseLeaves(1, 0), 2);
        Checks.due("hedgesOf(1)", x.hedgesOf(1), 0);
        Checks.due("hedgeLeaves(1, 0)", x.hedgeLeaves(1, 0), 1);
        Checks.due("roseLeaves(0, 0)", x.roseLeaves(0, 0), 0);
        Checks.dueThrow("a rose leaves once more", x, Checks.ISE, () -> x.roseLeaves(0, 0));
        Checks.dueThrow("a hedge leaves once more", x, Checks.ISE, () -> x.hedgeLeaves(2, 0));
        Checks.due("hedgeListens(2, 0) again", x.hedgeListens(2, 0), 0);
        Checks.due("departures() are not by hand", x.departures(), 0);
    }

    /** Seven hedges and eight roses is the longest row there can be. */
    private static void fullRow() {
        StringBuilder text = new StringBuilder();
        for (int i = 0; i < 8; i++) {
            text.append("hedge h").append(i).append(" hush 1;rose r").append(i).append(" patience 9;");
        }
        HedgeNews x = Checks.taught(text.toString());
        for (int i = 0; i < 8; i++) {
            Checks.due("roseListens", x.roseListens(7 - i, 7), i);
        }
        for (int i = 0; i < 7; i++) {
            Checks.due("hedgeListens", x.hedgeListens(i, 7), 8 + i);
        }
        Checks.due("listenersOf(7)", x.listenersOf(7), 15);
        Checks.due("roseInRow(0, 7)", x.roseInRow(0, 7), 7);
        Checks.due("hedgeInRow(0, 7)", x.hedgeInRow(0, 7), 8);
        Checks.due("hedgeInRow(7, 7)", x.hedgeInRow(7, 7), -1);
        Checks.due("roseLeaves(7, 7)", x.roseLeaves(7, 7), 14);
        Checks.due("hedgeInRow(6, 7)", x.hedgeInRow(6, 7), 13);
        Checks.due("tell(7, 2)", x.tell(7, 2), 14);
    }

    private static void noHedgesAtAll() {
        HedgeNews x = new HedgeNews();
        Checks.dueThrow("hushOf(0)", x, Checks.IOOBE, () -> x.hushOf(0));
        Checks.dueThrow("patienceOf(0)", x, Checks.IOOBE, () -> x.patienceOf(0));
        Checks.dueThrow("hedgeListens(0, 0)", x, Checks.IOOBE, () -> x.hedgeListens(0, 0));
        Checks.dueThrow("roseLeaves(0, 0)", x, Checks.IOOBE, () -> x.roseLeaves(0, 0));
        Checks.due("teach() of a rose alone", Checks.teach(x, "rose r patience 1;"), 0);
        Checks.dueThrow("roseListens(0, 0)", x, Checks.IOOBE, () -> x.roseListens(0, 0));
        Checks.due("hedgesOf(0)", x.hedgesOf(0), 0);
        Checks.due("fullest()", x.fullest(), 0);
    }
}
