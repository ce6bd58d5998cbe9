/** Promises 10 to 12, 14, 15, 20, 21, 23, 28, 30 to 32, 35 and 36: news, and how far it would come. */
public final class NewsTest {
    public static void main(String[] args) {
        quieterEachTime();
        inTheOrderOfWhispers();
        cycles();
        patience();
        countsAnew();
        petals();
        reaching();
        nothingIsChanged();
        best();
        wrongCalls();
        Checks.finish("NewsTest");
    }

    private static void quieterEachTime() {
        HedgeNews x = Checks.taught("hedge a hush 3;hedge b hush 2;hedge c hush 9;rose r patience 9;");
        x.hedgeListens(1, 0);
        x.hedgeListens(2, 1);
        x.roseListens(0, 2);
        Checks.due("tell(0, 3)", x.tell(0, 3), 0);
        Checks.due("latestOf(0)", x.latestOf(0), 3);
        Checks.due("heardBy(1)", x.heardBy(1), 0);
        Checks.due("latestOf(1)", x.latestOf(1), 0);
        Checks.due("tell(0, 4)", x.tell(0, 4), 1);
        Checks.due("latestOf(1)", x.latestOf(1), 1);
        Checks.due("tell(0, 5)", x.tell(0, 5), 1);
        Checks.due("tell(0, 6)", x.tell(0, 6), 2);
        Checks.due("latestOf(2)", x.latestOf(2), 1);
        Checks.due("tell(0, 14)", x.tell(0, 14), 2);
        Checks.due("petalsOf(0)", x.petalsOf(0), 0);
        Checks.due("tell(0, 15)", x.tell(0, 15), 3);
        Checks.due("petalsOf(0)", x.petalsOf(0), 1);
        Checks.due("tell(0, 99)", x.tell(0, 99), 3);
        Checks.due("petalsOf(0)", x.petalsOf(0), 86);
        Checks.due("latestOf(2)", x.latestOf(2), 94);
        Checks.due("tell(0, 1)", x.tell(0, 1), 0);
        Checks.due("latestOf(0)", x.latestOf(0), 1);
        Checks.due("latestOf(2) stays", x.latestOf(2), 94);
        Checks.due("heardBy(0)", x.heardBy(0), 8);
        Checks.due("heardBy(1)", x.heardBy(1), 6);
        Checks.due("heardBy(2)", x.heardBy(2), 4);
        Checks.due("whispers()", x.whispers(), 12);
        Checks.due("cycles()", x.cycles(), 0);
        Checks.due("day()", x.day(), 0);
        Checks.due("ordersCarriedOut()", x.ordersCarriedOut(), 0);
        Checks.due("tell(2, 99)", x.tell(2, 99), 1);
        Checks.due("heardBy(2)", x.heardBy(2), 5);
    }

    /** A hears first; then b and c; d hears from b, which stands ahead of c, though c is louder to it. */
    private static void inTheOrderOfWhispers() {
        HedgeNews x = Checks.taught("hedge a hush 1;hedge b hush 5;hedge c hush 1;hedge d hush 1;");
        x.hedgeListens(1, 0);
        x.hedgeListens(2, 0);
        x.hedgeListens(3, 1);
        x.hedgeListens(3, 2);
        Checks.due("loudnessAt(0, 3)", x.loudnessAt(0, 3), 93);
        Checks.due("tell(0, 10)", x.tell(0, 10), 4);
        Checks.due("latestOf(3)", x.latestOf(3), 4);
        Checks.due("cycles()", x.cycles(), 1);
        x.hedgeLeaves(1, 0);
        x.hedgeListens(1, 0);
        Checks.due("loudnessAt(0, 3) when c is ahead", x.loudnessAt(0, 3), 97);
        Checks.due("tell(0, 10)", x.tell(0, 10), 4);
        Checks.due("latestOf(3)", x.latestOf(3), 8);
        // not deep first: b is whispered to ahead of what c brings about
        x.hedgeListens(1, 2);
        Checks.due("loudnessAt(0, 1)", x.loudnessAt(0, 1), 98);
        Checks.due("loudnessAt(2, 1)", x.loudnessAt(2, 1), 98);
    }

    private static void cycles() {
        HedgeNews x = Checks.taught("hedge a hush 1;hedge b hush 1;hedge c hush 1;");
        x.hedgeListens(1, 0);
        x.hedgeListens(0, 1);
        Checks.due("comesBack(0)", x.comesBack(0), true);
        Checks.due("comesBack(2)", x.comesBack(2), false);
        Checks.due("tell(0, 2)", x.tell(0, 2), 1);
        Checks.due("cycles() when it is too quiet", x.cycles(), 0);
        Checks.due("tell(0, 3)", x.tell(0, 3), 2);
        Checks.due("cycles()", x.cycles(), 1);
        Checks.due("latestOf(0) is not that of a cycle", x.latestOf(0), 3);
        Checks.due("heardBy(0) is not that of a cycle", x.heardBy(0), 2);
        x.hedgeListens(2, 1);
        x.hedgeListens(0, 2);
        Checks.due("tell(0, 99)", x.tell(0, 99), 4);
        Checks.due("cycles()", x.cycles(), 3);
        x.hedgeLeaves(0, 1);
        x.hedgeLeaves(0, 2);
        x.hedgeListens(1, 2);
        // b and c go round, but nothing comes back to a
        Checks.due("comesBack(0)", x.comesBack(0), false);
        Checks.due("comesBack(1)", x.comesBack(1), true);
        Checks.due("comesBack(2)", x.comesBack(2), true);
        Checks.due("tell(0, 99)", x.tell(0, 99), 3);
        Checks.due("cycles()", x.cycles(), 4);
    }

    private static void patience() {
        HedgeNews x = Checks.taught("hedge a hush 1;hedge b hush 1;hedge c hush 1;rose r patience 2;rose s patience 1;");
        x.roseListens(0, 0);
        x.hedgeListens(1, 0);
        x.roseListens(1, 0);
        x.hedgeListens(2, 0);
        x.roseListens(0, 1);
        x.roseListens(0, 2);
        x.roseListens(1, 2);
        // r hears a (1), b (2: it leaves b), c (1 anew); s leaves a and c
        Checks.due("daysUntilLeft(0) without orders", x.daysUntilLeft(0), -1);
        Checks.due("tell(0, 50)", x.tell(0, 50), 7);
        Checks.due("departures()", x.departures(), 3);
        Checks.due("countOf(0)", x.countOf(0), 1);
        Checks.due("countOf(1)", x.countOf(1), 0);
        Checks.due("hedgesOf(0)", x.hedgesOf(0), 2);
        Checks.due("hedgesOf(1)", x.hedgesOf(1), 0);
        Checks.due("roseInRow(0, 0)", x.roseInRow(0, 0), 0);
        Checks.due("roseInRow(0, 1)", x.roseInRow(0, 1), -1);
        Checks.due("roseInRow(0, 2)", x.roseInRow(0, 2), 0);
        Checks.due("hedgeInRow(2, 0) comes up", x.hedgeInRow(2, 0), 2);
        Checks.due("petalsOf(0)", x.petalsOf(0), 49 + 48 + 48);
        Checks.due("petalsOf(1)", x.petalsOf(1), 49 + 48);
        Checks.due("tell(0, 2)", x.tell(0, 2), 3);
        Checks.due("roseInRow(0, 0) has enough", x.roseInRow(0, 0), -1);
        Checks.due("departures()", x.departures(), 4);
        Checks.due("listenersOf(0)", x.listenersOf(0), 2);
    }

    private static void countsAnew() {
        HedgeNews x = Checks.taught("hedge a hush 1;hedge b hush 1;rose r patience 3;");
        x.roseListens(0, 0);
        x.tell(0, 9);
        x.tell(0, 9);
        Checks.due("countOf(0)", x.countOf(0), 2);
        Checks.due("roseListens(0, 1)", x.roseListens(0, 1), 0);
        Checks.due("countOf(0) since it came to b", x.countOf(0), 0);
        x.tell(1, 9);
        Checks.due("countOf(0) to whichever hedge", x.countOf(0), 1);
        x.roseLeaves(0, 1);
        Checks.due("countOf(0) when it leaves by hand", x.countOf(0), 1);
        x.tell(0, 9);
        Checks.due("countOf(0)", x.countOf(0), 2);
        Checks.dueThrow("roseListens(0, 0)", x, Checks.ISE, () -> x.roseListens(0, 0));
        Checks.due("countOf(0) when it could not be done", x.countOf(0), 2);
        x.tell(0, 9);
        Checks.due("departures()", x.departures(), 1);
        Checks.due("hedgesOf(0)", x.hedgesOf(0), 0);
        Checks.due("petalsOf(0)", x.petalsOf(0), 40);
        x.tell(0, 9);
        Checks.due("petalsOf(0) when it is gone", x.petalsOf(0), 40);
    }

    private static void petals() {
        HedgeNews x = Checks.taught("hedge a hush 1;hedge b hush 1;rose r patience 9;rose s patience 9;rose t patience 9;");
        Checks.due("fullest() when all have none", x.fullest(), 0);
        Checks.dueMean("meanPetals()", x.meanPetals(), 0);
        x.roseListens(2, 0);
        x.roseListens(1, 1);
        x.tell(0, 11);
        Checks.due("fullest()", x.fullest(), 2);
        Checks.dueMean("meanPetals()", x.meanPetals(), 10 / 3.0);
        x.tell(1, 11);
        Checks.due("fullest() of two", x.fullest(), 1);
        Checks.dueMean("meanPetals()", x.meanPetals(), 20 / 3.0);
        x.tell(1, 2);
        Checks.due("fullest()", x.fullest(), 1);
        Checks.dueMean("meanPetals()", x.meanPetals(), 7);
        HedgeNews y = Checks.taught("hedge a hush 1;");
        Checks.due("fullest() without roses", y.fullest(), -1);
        Checks.dueMean("meanPetals() without roses", y.meanPetals(), 0);
    }

    private static void reaching() {
        HedgeNews x = Checks.taught("hedge a hush 4;hedge b hush 9;hedge c hush 1;hedge d hush 1;");
        x.hedgeListens(1, 0);
        x.hedgeListens(2, 1);
        x.hedgeListens(0, 2);
        Checks.due("reach(0, 1)", x.reach(0, 1), 1);
        Checks.due("reach(0, 4)", x.reach(0, 4), 1);
        Checks.due("reach(0, 5)", x.reach(0, 5), 2);
        Checks.due("reach(0, 13)", x.reach(0, 13), 2);
        Checks.due("reach(0, 14)", x.reach(0, 14), 3);
        Checks.due("reach(0, 99)", x.reach(0, 99), 3);
        Checks.due("reach(3, 99)", x.reach(3, 99), 1);
        Checks.due("loudnessAt(0, 0)", x.loudnessAt(0, 0), 99);
        Checks.due("loudnessAt(0, 1)", x.loudnessAt(0, 1), 95);
        Checks.due("loudnessAt(0, 2)", x.loudnessAt(0, 2), 86);
        Checks.due("loudnessAt(0, 3)", x.loudnessAt(0, 3), 0);
        Checks.due("loudnessAt(1, 0)", x.loudnessAt(1, 0), 89);
        Checks.due("loudnessAt(3, 3)", x.loudnessAt(3, 3), 99);
    }

    private static void nothingIsChanged() {
        HedgeNews x = Checks.taught("hedge a hush 1;hedge b hush 1;rose r patience 1;"
            + "listen b to a;listen a to b;listen r to a;tell a with 30;");
        x.passDays(2);
        long before = x.digest();
        x.reach(0, 99);
        x.loudnessAt(0, 1);
        x.comesBack(0);
        x.petalsAfter(0, 30);
        x.daysUntilLeft(0);
        x.bestToTell(99);
        x.meanPetals();
        x.fullest();
        Checks.due("digest()", x.digest(), before);
        Checks.due("day()", x.day(), 2);
        Checks.due("departures()", x.departures(), 2);
    }

    private static void best() {
        HedgeNews x = Checks.taught("hedge a hush 9;hedge b hush 1;hedge c hush 1;rose r patience 1;rose s patience 1;");
        Checks.due("bestToTell(99) of all the same", x.bestToTell(99), 0);
        x.roseListens(0, 2);
        Checks.due("bestToTell(99)", x.bestToTell(99), 2);
        Checks.due("bestToTell(1) of all the same", x.bestToTell(1), 0);
        x.roseListens(1, 1);
        Checks.due("bestToTell(99) of two", x.bestToTell(99), 1);
        x.hedgeListens(1, 0);
        x.hedgeListens(2, 0);
        Checks.due("bestToTell(99) of both together", x.bestToTell(99), 0);
        Checks.due("bestToTell(11)", x.bestToTell(11), 1);
        Checks.due("bestToTell(20): 2 * 10 against 19", x.bestToTell(20), 0);
        Checks.due("bestToTell(19): 2 * 9 against 18", x.bestToTell(19), 0);
        Checks.due("bestToTell(18): 2 * 8 against 17", x.bestToTell(18), 1);
        HedgeNews y = Checks.taught("rose r patience 1;");
        Checks.due("bestToTell(50) without hedges", y.bestToTell(50), -1);
        HedgeNews z = Checks.taught("hedge a hush 1;hedge b hush 1;");
        Checks.due("bestToTell(50) without roses", z.bestToTell(50), 0);
    }

    private static void wrongCalls() {
        HedgeNews x = Checks.taught("hedge a hush 1;hedge b hush 1;rose r patience 1;listen b to a;");
        x.passDays(1);
        int[] noHedges = {-1, 2, 8, Integer.MIN_VALUE, Integer.MAX_VALUE};
        int[] noLoudnesses = {0, -1, 100, Integer.MIN_VALUE, Integer.MAX_VALUE};
        for (int no : noHedges) {
            Checks.dueThrow("tell", x, Checks.IOOBE, () -> x.tell(no, 5));
            Checks.dueThrow("tell, too loud as well", x, Checks.IOOBE, () -> x.tell(no, 100));
            Checks.dueThrow("reach", x, Checks.IOOBE, () -> x.reach(no, 5));
            Checks.dueThrow("reach, too quiet as well", x, Checks.IOOBE, () -> x.reach(no, 0));
            Checks.dueThrow("loudnessAt from none", x, Checks.IOOBE, () -> x.loudnessAt(no, 0));
            Checks.dueThrow("loudnessAt none", x, Checks.IOOBE, () -> x.loudnessAt(0, no));
            Checks.dueThrow("comesBack", x, Checks.IOOBE, () -> x.comesBack(no));
        }
        for (int no : noLoudnesses) {
            Checks.dueThrow("tell", x, Checks.IAE, () -> x.tell(0, no));
            Checks.dueThrow("reach", x, Checks.IAE, () -> x.reach(1, no));
            Checks.dueThrow("bestToTell", x, Checks.IAE, () -> x.bestToTell(no));
            Checks.dueThrow("bestToTell without hedges", new HedgeNews(), Checks.IAE, () -> new HedgeNews().bestToTell(no));
        }
        Checks.due("tell(0, 1)", x.tell(0, 1), 0);
        Checks.due("tell(0, 99)", x.tell(0, 99), 1);
    }
}
