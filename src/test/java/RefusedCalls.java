/** What a call that throws leaves behind, and which exception it throws of several: for each call that can throw. */
final class RefusedCalls {
    private static final String GARDEN = "hedge a hush 2;hedge b hush 1;hedge c hush 3;rose r patience 3;rose s patience 8;"
        + "tell a with 20 + day;listen r to c when cycles > 2;";
    private static final String ON_THE_TAPE = "hedge z hush 4;rose y patience 6;listen y to z;tell z with 11;";
    private static final String CHANGES_NOTHING = "A method that throws an exception changes nothing.";
    private static final String NAMED_FIRST = "If several exceptions apply, the one that is named first is thrown.";
    private static final int[] NONE = {-1, 3, 8, Integer.MIN_VALUE, Integer.MAX_VALUE};
    private static final int[] NO_LOUDNESS = {0, -1, 100, Integer.MIN_VALUE, Integer.MAX_VALUE};
    private static final int[] NO_DAYS = {0, -1, 31, Integer.MIN_VALUE, Integer.MAX_VALUE};

    private RefusedCalls() {
    }

    private interface Refused {
        void call(HedgeNews x, int number);
    }

    static void look() {
        changesNothing();
        namedFirst();
    }

    private static void changesNothing() {
        Sentences.says(CHANGES_NOTHING, "feed", RefusedCalls::feedOnAFullTape);
        nothing("trim", Checks.IAE, new int[] {-1, tapeSize() + 1, 2000, Integer.MIN_VALUE, Integer.MAX_VALUE}, (x, no) -> x.trim(no));
        nothing("hushOf", Checks.IOOBE, NONE, (x, no) -> x.hushOf(no));
        nothing("heardBy", Checks.IOOBE, NONE, (x, no) -> x.heardBy(no));
        nothing("latestOf", Checks.IOOBE, NONE, (x, no) -> x.latestOf(no));
        nothing("listenersOf", Checks.IOOBE, NONE, (x, no) -> x.listenersOf(no));
        nothing("hedgeInRow", Checks.IOOBE, NONE, (x, no) -> x.hedgeInRow(0, no));
        nothing("roseInRow", Checks.IOOBE, NONE, (x, no) -> x.roseInRow(no, 0));
        nothing("patienceOf", Checks.IOOBE, NONE, (x, no) -> x.patienceOf(no));
        nothing("petalsOf", Checks.IOOBE, NONE, (x, no) -> x.petalsOf(no));
        nothing("countOf", Checks.IOOBE, NONE, (x, no) -> x.countOf(no));
        nothing("hedgesOf", Checks.IOOBE, NONE, (x, no) -> x.hedgesOf(no));
        nothing("hedgeListens of no hedge", Checks.IOOBE, NONE, (x, no) -> x.hedgeListens(no, 2));
        nothing("hedgeListens to no hedge", Checks.IOOBE, NONE, (x, no) -> x.hedgeListens(2, no));
        nothing("hedgeListens that cannot be done", Checks.ISE, new int[] {0, 1}, (x, no) -> x.hedgeListens(no, 0));
        nothing("roseListens of no rose", Checks.IOOBE, NONE, (x, no) -> x.roseListens(no, 2));
        nothing("roseListens to no hedge", Checks.IOOBE, NONE, (x, no) -> x.roseListens(0, no));
        nothing("roseListens that cannot be done", Checks.ISE, new int[] {0, 1}, (x, no) -> x.roseListens(no, 1));
        nothing("hedgeLeaves of no hedge", Checks.IOOBE, NONE, (x, no) -> x.hedgeLeaves(no, 0));
        nothing("hedgeLeaves, to no hedge", Checks.IOOBE, NONE, (x, no) -> x.hedgeLeaves(1, no));
        nothing("hedgeLeaves that cannot be done", Checks.ISE, new int[] {0, 2}, (x, no) -> x.hedgeLeaves(no, 0));
        nothing("roseLeaves of no rose", Checks.IOOBE, NONE, (x, no) -> x.roseLeaves(no, 0));
        nothing("roseLeaves, to no hedge", Checks.IOOBE, NONE, (x, no) -> x.roseLeaves(1, no));
        nothing("roseLeaves that cannot be done", Checks.ISE, new int[] {0, 1}, (x, no) -> x.roseLeaves(no, 2));
        nothing("tell to no hedge", Checks.IOOBE, NONE, (x, no) -> x.tell(no, 50));
        nothing("tell with no loudness", Checks.IAE, NO_LOUDNESS, (x, no) -> x.tell(0, no));
        nothing("passDays", Checks.IAE, NO_DAYS, (x, no) -> x.passDays(no));
        nothing("reach of no hedge", Checks.IOOBE, NONE, (x, no) -> x.reach(no, 50));
        nothing("reach with no loudness", Checks.IAE, NO_LOUDNESS, (x, no) -> x.reach(0, no));
        nothing("loudnessAt from no hedge", Checks.IOOBE, NONE, (x, no) -> x.loudnessAt(no, 0));
        nothing("loudnessAt no hedge", Checks.IOOBE, NONE, (x, no) -> x.loudnessAt(0, no));
        nothing("comesBack", Checks.IOOBE, NONE, (x, no) -> x.comesBack(no));
        nothing("petalsAfter of no rose", Checks.IOOBE, NONE, (x, no) -> x.petalsAfter(no, 1));
        nothing("petalsAfter no days", Checks.IAE, NO_DAYS, (x, no) -> x.petalsAfter(0, no));
        nothing("daysUntilLeft", Checks.IOOBE, NONE, (x, no) -> x.daysUntilLeft(no));
        nothing("bestToTell", Checks.IAE, NO_LOUDNESS, (x, no) -> x.bestToTell(no));
    }

    private static int tapeSize() {
        return ON_THE_TAPE.length();
    }

    private static void nothing(String call, int exception, int[] numbers, Refused refused) {
        Sentences.says(CHANGES_NOTHING, call, () -> {
            for (int number : numbers) {
                HedgeNews x = inTheMidst(ON_THE_TAPE);
                HedgeNews twin = inTheMidst(ON_THE_TAPE);
                due(call + " with " + number, exception, x, () -> refused.call(x, number));
                Checks.due("trim(" + tapeSize() + ")", x.trim(tapeSize()), tapeSize());
                dueTheSame(call + " with " + number, x, twin);
            }
        });
    }

    private static void feedOnAFullTape() {
        for (int size : new int[] {1981, 1982, 1999, 2000}) {
            String tape = ON_THE_TAPE + " ".repeat(size - tapeSize());
            HedgeNews x = inTheMidst(tape);
            HedgeNews twin = inTheMidst(tape);
            due("feed behind " + size, Checks.ISE, x, () -> x.feed(-1, -1, -1, -1, -1));
            Checks.due("trim(" + size + ")", x.trim(size), size);
            dueTheSame("feed behind " + size, x, twin);
        }
    }

    private static void due(String what, int exception, HedgeNews x, Checks.Call call) {
        Checks.dueThrow(what, x, exception, call);
    }

    /** Two days on, behind an error, and with a garden on the tape that is not taught yet. */
    private static HedgeNews inTheMidst(String tape) {
        HedgeNews x = Checks.taught(GARDEN);
        x.hedgeListens(1, 0);
        x.hedgeListens(0, 1);
        x.roseListens(1, 0);
        x.roseListens(0, 1);
        x.roseListens(1, 1);
        x.passDays(2);
        Checks.teach(x, "hedge a hush 0;");
        Checks.write(x, 0, tape);
        return x;
    }

    private static void dueTheSame(String behind, HedgeNews x, HedgeNews twin) {
        dueTheSameNow("behind " + behind, x, twin);
        Checks.due("passDays(2) behind " + behind, x.passDays(2), twin.passDays(2));
        dueTheSameNow("two days behind " + behind, x, twin);
        Checks.due("teach() behind " + behind, x.teach(), 0);
        twin.teach();
        x.passDays(1);
        twin.passDays(1);
        dueTheSameNow("with the tape behind " + behind, x, twin);
    }

    private static void dueTheSameNow(String when, HedgeNews x, HedgeNews twin) {
        Checks.due("digest() " + when, x.digest(), twin.digest());
        Checks.due("errorAt() " + when, x.errorAt(), twin.errorAt());
        for (int hedge = 0; hedge < twin.hedges(); hedge++) {
            Checks.due("hushOf(" + hedge + ") " + when, x.hushOf(hedge), twin.hushOf(hedge));
            Checks.due("loudnessAt(" + hedge + ", 0) " + when, x.loudnessAt(hedge, 0), twin.loudnessAt(hedge, 0));
        }
        for (int rose = 0; rose < twin.roses(); rose++) {
            Checks.due("patienceOf(" + rose + ") " + when, x.patienceOf(rose), twin.patienceOf(rose));
            Checks.due("petalsAfter(" + rose + ", 9) " + when, x.petalsAfter(rose, 9), twin.petalsAfter(rose, 9));
            Checks.due("daysUntilLeft(" + rose + ") " + when, x.daysUntilLeft(rose), twin.daysUntilLeft(rose));
        }
    }

    private static void namedFirst() {
        // a hedge that is none cannot listen to itself, nor leave; the index is named ahead of the state
        first("hedgeListens", NONE, (x, no) -> x.hedgeListens(no, no));
        first("roseListens", NONE, (x, no) -> x.roseListens(no, no));
        first("hedgeLeaves", NONE, (x, no) -> x.hedgeLeaves(no, no));
        first("roseLeaves", NONE, (x, no) -> x.roseLeaves(no, no));
        first("tell", NONE, (x, no) -> x.tell(no, 0));
        first("tell, too loud", NONE, (x, no) -> x.tell(no, 100));
        first("reach", NONE, (x, no) -> x.reach(no, 0));
        first("reach, too loud", NONE, (x, no) -> x.reach(no, 100));
        first("petalsAfter", NONE, (x, no) -> x.petalsAfter(no, 0));
        first("petalsAfter, too many days", NONE, (x, no) -> x.petalsAfter(no, 31));
    }

    private static void first(String call, int[] numbers, Refused refused) {
        Sentences.says(NAMED_FIRST, call, () -> {
            HedgeNews x = inTheMidst(ON_THE_TAPE);
            for (int number : numbers) {
                due(call + " with " + number, Checks.IOOBE, x, () -> refused.call(x, number));
            }
        });
    }
}
