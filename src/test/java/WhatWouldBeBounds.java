import java.math.BigInteger;
import java.util.Arrays;

/** The bounds that the promises 30 to 37 name, sentence by sentence: what would be, the mean and the checksum. */
final class WhatWouldBeBounds {
    private static final String THREE = "hedge a hush 1;hedge b hush 1;hedge c hush 1;rose r patience 9;rose s patience 2;";
    private static final String NO_HEDGE = "Throws IndexOutOfBoundsException if there is no such hedge";
    private static final String NO_ROSE = "Throws IndexOutOfBoundsException if there is no such rose";
    private static final String LOUDNESS = "Throws IllegalArgumentException if loudness is not 1 to 99";

    private WhatWouldBeBounds() {
    }

    private interface Asked {
        long ask(HedgeNews x);
    }

    static void look() {
        reach();
        loudnessAt();
        comesBack();
        petalsAfter();
        daysUntilLeft();
        bestToTell();
        meanPetals();
        digest();
    }

    /** The question has to change nothing: neither now nor in what days bring about. */
    private static void dueUnchanged(String what, Asked asked) {
        HedgeNews x = inTheMidst();
        HedgeNews twin = inTheMidst();
        for (int times = 0; times < 3; times++) {
            Checks.due(what + ", asked once more", asked.ask(x), asked.ask(x));
            Checks.due("digest() behind " + what, x.digest(), twin.digest());
            Checks.due("errorAt() behind " + what, x.errorAt(), twin.errorAt());
            Checks.due("trim(2) behind " + what, x.trim(2), 2);
            Checks.due("passDays(2) behind " + what, x.passDays(2), twin.passDays(2));
            Checks.due("digest() two days behind " + what, x.digest(), twin.digest());
        }
    }

    private static HedgeNews inTheMidst() {
        HedgeNews x = Checks.taught("hedge a hush 2;hedge b hush 1;hedge c hush 3;rose r patience 3;rose s patience 8;"
            + "rose q patience 9;tell a with 20 + day;listen r to c when cycles > 2;listen r to b when hears r of c;tell c with petals of s;");
        x.hedgeListens(1, 0);
        x.hedgeListens(0, 1);
        x.roseListens(1, 0);
        x.roseListens(0, 1);
        x.roseListens(1, 1);
        x.passDays(2);
        Checks.teach(x, "hedge a hush 0;");
        Checks.write(x, 0, "  ");
        return x;
    }

    /** Eight hedges, each of which listens to the one ahead of it. */
    private static HedgeNews chain(int hush) {
        HedgeNews x = Checks.taught(Gardens.hedges(8).replace("hush 1", "hush " + hush) + Gardens.roses(2));
        for (int i = 1; i < 8; i++) {
            x.hedgeListens(i, i - 1);
        }
        return x;
    }

    private static void reach() {
        Sentences.in("Promise 30");
        String hears = "Returns how many hedges would hear such a news, if it was told to this one now, itself as well";
        Sentences.says(hears, "itself alone", WhatWouldBeBounds::reachesItselfAlone);
        Sentences.says(hears, "up to all", WhatWouldBeBounds::reachesUpToAll);
        Sentences.says("(nothing is changed).", () -> dueUnchanged("reach(0, 99)", x -> x.reach(0, 99)));
        Sentences.says(NO_HEDGE, () -> Gardens.dueNoHedge("reach", (x, no) -> x.reach(no, 50)));
        Sentences.says(LOUDNESS, () -> Gardens.dueOneTo("reach", 99, (x, no) -> x.reach(0, no)));
    }

    private static void reachesItselfAlone() {
        HedgeNews x = chain(9);
        Checks.due("reach(0, 1)", x.reach(0, 1), 1);
        Checks.due("reach(0, 9), too quiet", x.reach(0, 9), 1);
        Checks.due("reach(7, 99), to which nobody listens", x.reach(7, 99), 1);
        x.roseListens(0, 7);
        x.roseListens(1, 7);
        Checks.due("reach(7, 99), to which only roses listen", x.reach(7, 99), 1);
    }

    private static void reachesUpToAll() {
        HedgeNews x = chain(9);
        for (int hedges = 2; hedges <= 8; hedges++) {
            Checks.due("reach for the last of " + hedges, x.reach(0, 9 * (hedges - 1) + 1), hedges);
            Checks.due("reach, too quiet for the last of " + hedges, x.reach(0, 9 * (hedges - 1)), hedges - 1);
        }
        Checks.due("reach(0, 99)", x.reach(0, 99), 8);
        x.hedgeListens(0, 7);
        Checks.due("reach(3, 99), of which each is counted once", x.reach(3, 99), 8);
    }

    private static void loudnessAt() {
        Sentences.in("Promise 31");
        String loud = "Returns how loud a news of 99 would be as the second one hears it the first time, if it was told to the "
            + "first one now;";
        Sentences.says(loud, "the same one", WhatWouldBeBounds::loudAtTheSame);
        Sentences.says(loud, "the farthest one", WhatWouldBeBounds::loudAtTheFarthest);
        Sentences.says(loud, "the first time", WhatWouldBeBounds::loudTheFirstTime);
        Sentences.says("0 if it does not", WhatWouldBeBounds::notLoudAtAll);
        Sentences.says("(nothing is changed).", () -> dueUnchanged("loudnessAt(0, 1)", x -> x.loudnessAt(0, 1)));
        Sentences.says(NO_HEDGE, "the first one", () -> Gardens.dueNoHedge("loudnessAt", (x, no) -> x.loudnessAt(no, 0)));
        Sentences.says(NO_HEDGE, "the second one", () -> Gardens.dueNoHedge("loudnessAt", (x, no) -> x.loudnessAt(0, no)));
    }

    private static void loudAtTheSame() {
        HedgeNews x = chain(9);
        x.hedgeListens(0, 7);
        for (int i = 0; i < 8; i++) {
            Checks.due("loudnessAt(" + i + ", " + i + ")", x.loudnessAt(i, i), 99);
        }
    }

    private static void loudAtTheFarthest() {
        HedgeNews x = chain(9);
        HedgeNews y = chain(1);
        for (int i = 0; i < 8; i++) {
            Checks.due("loudnessAt(0, " + i + ") with hush 9", x.loudnessAt(0, i), 99 - 9 * i);
            Checks.due("loudnessAt(0, " + i + ") with hush 1", y.loudnessAt(0, i), 99 - i);
        }
    }

    private static void loudTheFirstTime() {
        HedgeNews x = Checks.taught("hedge a hush 1;hedge b hush 9;hedge c hush 1;hedge d hush 1;");
        x.hedgeListens(1, 0);
        x.hedgeListens(2, 0);
        x.hedgeListens(3, 1);
        x.hedgeListens(3, 2);
        Checks.due("loudnessAt(0, 3), by b ahead of c", x.loudnessAt(0, 3), 89);
        x.tell(0, 5);
        Checks.due("loudnessAt(0, 3) when they have heard something", x.loudnessAt(0, 3), 89);
    }

    private static void notLoudAtAll() {
        HedgeNews x = chain(9);
        for (int i = 0; i < 7; i++) {
            Checks.due("loudnessAt(7, " + i + ")", x.loudnessAt(7, i), 0);
        }
        x.tell(0, 99);
        Checks.due("loudnessAt(7, 0), which heard something else", x.loudnessAt(7, 0), 0);
        x.hedgeLeaves(1, 0);
        Checks.due("loudnessAt(0, 1), which left", x.loudnessAt(0, 1), 0);
    }

    private static void comesBack() {
        Sentences.in("Promise 32");
        String back = "Returns whether a news of 99 would come back to this one, if it was told to it now";
        Sentences.says(back, "nobody listens", WhatWouldBeBounds::nothingComesBack);
        Sentences.says(back, "the shortest and the longest way", WhatWouldBeBounds::comesBackTheLongestWay);
        Sentences.says(back, "another cycle", WhatWouldBeBounds::comesBackElsewhere);
        Sentences.says("(nothing is changed).", () -> dueUnchanged("comesBack(0)", x -> x.comesBack(0) ? 1 : 0));
        Sentences.says(NO_HEDGE, () -> Gardens.dueNoHedge("comesBack", (x, no) -> x.comesBack(no)));
    }

    private static void nothingComesBack() {
        HedgeNews x = chain(9);
        for (int i = 0; i < 8; i++) {
            Checks.due("comesBack(" + i + ")", x.comesBack(i), false);
        }
        x.roseListens(0, 0);
        x.tell(0, 99);
        Checks.due("comesBack(0), which has heard something", x.comesBack(0), false);
    }

    private static void comesBackTheLongestWay() {
        HedgeNews x = chain(9);
        x.hedgeListens(0, 7);
        for (int i = 0; i < 8; i++) {
            Checks.due("comesBack(" + i + ") by all eight", x.comesBack(i), true);
        }
        HedgeNews y = Checks.taught(THREE);
        y.hedgeListens(1, 0);
        y.hedgeListens(0, 1);
        Checks.due("comesBack(0) by one other", y.comesBack(0), true);
    }

    private static void comesBackElsewhere() {
        HedgeNews x = Checks.taught(THREE);
        x.hedgeListens(1, 0);
        x.hedgeListens(2, 1);
        x.hedgeListens(1, 2);
        Checks.due("comesBack(0), ahead of a cycle", x.comesBack(0), false);
        Checks.due("comesBack(1)", x.comesBack(1), true);
        Checks.due("comesBack(2)", x.comesBack(2), true);
    }

    private static void petalsAfter() {
        Sentences.in("Promise 33");
        String behind = "Returns how many petals it has behind them, if nothing is done by hand";
        Sentences.says(behind, "1 to 30 days", WhatWouldBeBounds::petalsBehindEachDay);
        Sentences.says(behind, "never less than none", WhatWouldBeBounds::petalsNeverLess);
        Sentences.says("(nothing is changed).", () -> dueUnchanged("petalsAfter(1, 30)", x -> x.petalsAfter(1, 30)));
        Sentences.says(NO_ROSE, () -> Gardens.dueNoRose("petalsAfter", (x, no) -> x.petalsAfter(no, 1)));
        Sentences.says("Throws IllegalArgumentException if days is not 1 to 30",
            () -> Gardens.dueOneTo("petalsAfter", 30, (x, no) -> x.petalsAfter(0, no)));
    }

    private static void petalsBehindEachDay() {
        HedgeNews x = Checks.taught(THREE + "listen r to a;tell a with 3 when day < 8;tell a with 50 when day = 29;");
        x.hedgeListens(1, 0);
        for (int days = 1; days <= 30; days++) {
            int due = days <= 8 ? days : Math.max(0, 16 - days) + (days == 30 ? 48 : 0);
            Checks.due("petalsAfter(0, " + days + ")", x.petalsAfter(0, days), due);
        }
        x.passDays(29);
        Checks.due("petalsAfter(0, 1) on the last of them", x.petalsAfter(0, 1), 48);
        Checks.due("petalsAfter(0, 30)", x.petalsAfter(0, 30), 19);
    }

    private static void petalsNeverLess() {
        HedgeNews x = Checks.taught(THREE);
        x.roseListens(0, 0);
        x.tell(0, 3);
        Checks.due("petalsAfter(0, 1)", x.petalsAfter(0, 1), 1);
        Checks.due("petalsAfter(0, 2)", x.petalsAfter(0, 2), 0);
        Checks.due("petalsAfter(0, 3)", x.petalsAfter(0, 3), 0);
        Checks.due("petalsAfter(0, 30)", x.petalsAfter(0, 30), 0);
        Checks.due("petalsAfter(1, 1)", x.petalsAfter(1, 1), 0);
    }

    private static void daysUntilLeft() {
        Sentences.in("Promise 34");
        String once = "Returns behind how many days it has left a hedge by itself, once more than now, if nothing is done by hand:";
        Sentences.says(once, "by itself", WhatWouldBeBounds::leftByItself);
        Sentences.says(once, "once more than now", WhatWouldBeBounds::leftOnceMore);
        Sentences.says("1 to 40;", WhatWouldBeBounds::leftFromOneTo40);
        Sentences.says("-1 if not by then", WhatWouldBeBounds::leftTooLate);
        Sentences.says("(nothing is changed).", "a rose that leaves", () -> dueUnchanged("daysUntilLeft(0)", x -> x.daysUntilLeft(0)));
        Sentences.says("(nothing is changed).", "one that does not", () -> dueUnchanged("daysUntilLeft(2)", x -> x.daysUntilLeft(2)));
        Sentences.says(NO_ROSE, () -> Gardens.dueNoRose("daysUntilLeft", (x, no) -> x.daysUntilLeft(no)));
    }

    private static void leftByItself() {
        HedgeNews x = Checks.taught(THREE + "listen r to a;listen s to a;tell a with 9 when day = 3 or day = 5;leave r to a;");
        Checks.due("daysUntilLeft(1)", x.daysUntilLeft(1), 6);
        Checks.due("daysUntilLeft(0), which leaves by order", x.daysUntilLeft(0), -1);
        x.roseListens(1, 0);
        x.roseLeaves(1, 0);
        Checks.due("daysUntilLeft(1) when it left by hand", x.daysUntilLeft(1), 6);
    }

    private static void leftOnceMore() {
        HedgeNews x = Checks.taught(THREE + "listen s to a;tell a with 9;");
        Checks.due("daysUntilLeft(1)", x.daysUntilLeft(1), 2);
        x.passDays(2);
        Checks.due("departures()", x.departures(), 1);
        Checks.due("daysUntilLeft(1) once more", x.daysUntilLeft(1), 2);
        x.passDays(1);
        Checks.due("daysUntilLeft(1) a day on", x.daysUntilLeft(1), 1);
        HedgeNews y = Checks.taught(THREE + "listen r to b;listen s to a when day = 0;tell a with 9;");
        y.passDays(5);
        Checks.due("departures()", y.departures(), 1);
        Checks.due("daysUntilLeft(1), which has left and comes no more", y.daysUntilLeft(1), -1);
        Checks.due("daysUntilLeft(0), another rose than the one that left", y.daysUntilLeft(0), -1);
    }

    private static void leftFromOneTo40() {
        for (int day = 0; day < 40; day++) {
            HedgeNews x = Checks.taught("hedge a hush 1;rose r patience 1;tell a with 9 when day = " + day + ";");
            x.roseListens(0, 0);
            Checks.due("daysUntilLeft(0) with a news on day " + day, x.daysUntilLeft(0), day + 1);
        }
    }

    private static void leftTooLate() {
        HedgeNews x = Checks.taught("hedge a hush 1;rose r patience 1;rose s patience 1;tell a with 9 when day = 40;");
        x.roseListens(0, 0);
        Checks.due("daysUntilLeft(0) with a news on day 40", x.daysUntilLeft(0), -1);
        Checks.due("daysUntilLeft(1), which listens nowhere", x.daysUntilLeft(1), -1);
        x.passDays(1);
        Checks.due("daysUntilLeft(0) a day on", x.daysUntilLeft(0), 40);
        HedgeNews y = Checks.taught("rose r patience 1;");
        Checks.due("daysUntilLeft(0) without hedges", y.daysUntilLeft(0), -1);
    }

    private static void bestToTell() {
        Sentences.in("Promise 35");
        Sentences.says("Returns the hedge to which such a news had best be told now, so that all roses together have the most petals "
            + "then,", WhatWouldBeBounds::bestOfAll);
        Sentences.says("of several the smallest number;", WhatWouldBeBounds::severalBest);
        Sentences.says("-1 without hedges", WhatWouldBeBounds::bestWithoutHedges);
        Sentences.says("(nothing is changed).", () -> dueUnchanged("bestToTell(99)", x -> x.bestToTell(99)));
        Sentences.says(LOUDNESS, "with hedges", () -> Gardens.dueOneTo("bestToTell", 99, (x, no) -> x.bestToTell(no)));
        Sentences.says(LOUDNESS, "without hedges", WhatWouldBeBounds::noLoudnessWithoutHedges);
    }

    private static void bestOfAll() {
        for (int hedge = 0; hedge < 8; hedge++) {
            HedgeNews x = Checks.taught(Gardens.hedges(8).replace("hush 1", "hush 9").replace("h" + hedge + " hush 9", "h" + hedge
                + " hush 8") + Gardens.roses(8));
            for (int i = 0; i < 8; i++) {
                x.roseListens(i, i);
            }
            Checks.due("bestToTell(9), where one alone is told anything", x.bestToTell(9), hedge);
            Checks.due("bestToTell(99), where one has a petal more", x.bestToTell(99), hedge);
        }
        HedgeNews y = Checks.taught("hedge a hush 1;hedge b hush 9;" + Gardens.roses(2));
        y.roseListens(0, 0);
        y.roseListens(0, 1);
        y.roseListens(1, 1);
        Checks.due("bestToTell(17): 16 against 2 * 8", y.bestToTell(17), 0);
        Checks.due("bestToTell(18): 17 against 2 * 9", y.bestToTell(18), 1);
        Checks.due("bestToTell(16): 15 against 2 * 7", y.bestToTell(16), 0);
    }

    private static void severalBest() {
        HedgeNews x = Checks.taught(Gardens.hedges(8) + Gardens.roses(1));
        Checks.due("bestToTell(99) when nobody listens", x.bestToTell(99), 0);
        for (int i = 7; i >= 3; i--) {
            x.roseListens(0, i);
        }
        Checks.due("bestToTell(99) of five that are as good", x.bestToTell(99), 3);
        Checks.due("bestToTell(1), too quiet for all", x.bestToTell(1), 0);
        Checks.due("bestToTell(99) without roses", Checks.taught(Gardens.hedges(2)).bestToTell(99), 0);
    }

    private static void bestWithoutHedges() {
        Checks.due("bestToTell(1) of a new one", new HedgeNews().bestToTell(1), -1);
        Checks.due("bestToTell(99) of a new one", new HedgeNews().bestToTell(99), -1);
        Checks.due("bestToTell(50) with roses alone", Checks.taught(Gardens.roses(8)).bestToTell(50), -1);
    }

    private static void noLoudnessWithoutHedges() {
        for (int no : new int[] {0, -1, 100, Integer.MIN_VALUE, Integer.MAX_VALUE}) {
            HedgeNews x = new HedgeNews();
            Checks.dueThrow("bestToTell(" + no + ")", x, Checks.IAE, () -> x.bestToTell(no));
        }
    }

    private static void meanPetals() {
        Sentences.in("Promise 36");
        Sentences.says("Returns the mean of petals of roses;", WhatWouldBeBounds::meanOfRoses);
        Sentences.says("0 without any.", WhatWouldBeBounds::meanWithoutRoses);
    }

    private static void meanOfRoses() {
        for (int roses = 1; roses <= 8; roses++) {
            HedgeNews x = Checks.taught("hedge a hush 1;" + Gardens.roses(roses));
            Checks.dueMean("meanPetals() when none has a petal", x.meanPetals(), 0);
            x.roseListens(roses - 1, 0);
            x.tell(0, 2);
            Checks.dueMean("meanPetals() of one petal", x.meanPetals(), 1.0 / roses);
            x.tell(0, 99);
            Checks.dueMean("meanPetals() of 99 petals", x.meanPetals(), 99.0 / roses);
        }
    }

    private static void meanWithoutRoses() {
        Checks.dueMean("meanPetals() of a new one", new HedgeNews().meanPetals(), 0);
        Checks.dueMean("meanPetals() with hedges alone", Checks.taught(Gardens.hedges(8)).meanPetals(), 0);
        HedgeNews x = Checks.taught(Gardens.roses(8));
        x.teach();
        Checks.dueMean("meanPetals() when all is gone", x.meanPetals(), 0);
    }

    private static void digest() {
        Sentences.in("Promise 37");
        String begins = "Computes a checksum. A number d starts with 1063; for each of the following numbers x, d becomes d * 31 + x,";
        Sentences.says(begins, WhatWouldBeBounds::digestOfNothing);
        Sentences.says("which wraps around as a 64-bit integer:", WhatWouldBeBounds::digestWraps);
        Sentences.says("hedges(), roses(), day(), ordersCarriedOut(), whispers(), cycles(), departures(), fullest(), bestToTell(20);",
            "without hedges and roses", WhatWouldBeBounds::digestOfTheGarden);
        Sentences.says("for each hedge heardBy(), latestOf(), listenersOf(), and of each other hedge and itself, then of each rose, "
            + "its place in the row of this one;", WhatWouldBeBounds::digestOfHedges);
        Sentences.says("for each rose petalsOf(), countOf(), hedgesOf() (all in their order).", WhatWouldBeBounds::digestOfRoses);
        Sentences.says("Returns d.", WhatWouldBeBounds::digestReturned);
    }

    /** Reckoned without a bound, and cut to 64 bits at the end alone. */
    private static long reckoned(int... numbers) {
        return whole(numbers).longValue();
    }

    private static BigInteger whole(int... numbers) {
        BigInteger d = BigInteger.valueOf(1063);
        for (int number : numbers) {
            d = d.multiply(BigInteger.valueOf(31)).add(BigInteger.valueOf(number));
        }
        return d;
    }

    private static void digestOfNothing() {
        Checks.due("digest()", new HedgeNews().digest(), reckoned(0, 0, 0, 0, 0, 0, 0, -1, -1));
    }

    private static void digestWraps() {
        HedgeNews x = Checks.taught("hedge a hush 1;rose r patience 1;");
        int[] numbers = {1, 1, 0, 0, 0, 0, 0, 0, 0, 0, 0, 0, -1, -1, 0, 0, 0};
        Checks.due("bits of the checksum above 64", whole(numbers).bitLength() > 64, true);
        Checks.due("digest()", x.digest(), reckoned(numbers));
        int below = 0;
        for (int day = 1; day <= 30; day++) {
            x.passDays(1);
            numbers[2] = day;
            Checks.due("digest() in the day " + day, x.digest(), reckoned(numbers));
            below += x.digest() < 0 ? 1 : 0;
        }
        Checks.due("some of them are below 0, and some are not", below > 0 && below < 30, true);
        digestOfMostNumbers();
    }

    private static void digestOfMostNumbers() {
        HedgeNews x = Checks.taught(Gardens.hedges(8) + Gardens.roses(8));
        int[] numbers = new int[9 + 8 * (3 + 16) + 8 * 3];
        numbers[0] = 8;
        numbers[1] = 8;
        for (int hedge = 0; hedge < 8; hedge++) {
            Arrays.fill(numbers, 9 + 19 * hedge + 3, 9 + 19 * hedge + 19, -1);
        }
        Checks.due("digest() of as many numbers as there can be", x.digest(), reckoned(numbers));
    }

    private static void digestOfTheGarden() {
        HedgeNews x = new HedgeNews();
        x.passDays(7);
        Checks.due("digest() behind 7 days", x.digest(), reckoned(0, 0, 7, 0, 0, 0, 0, -1, -1));
        HedgeNews y = Checks.taught("rose r patience 1;rose s patience 1;");
        Checks.due("digest() of roses alone", y.digest(), reckoned(0, 2, 0, 0, 0, 0, 0, 0, -1, 0, 0, 0, 0, 0, 0));
        HedgeNews z = Checks.taught("hedge a hush 1;tell a with 5;");
        z.passDays(3);
        Checks.due("digest() of a hedge alone", z.digest(), reckoned(1, 0, 3, 3, 0, 0, 0, -1, 0, 3, 5, 0, -1));
    }

    private static void digestOfHedges() {
        HedgeNews x = Checks.taught("hedge a hush 1;hedge b hush 1;rose r patience 9;");
        x.roseListens(0, 1);
        x.hedgeListens(0, 1);
        x.hedgeListens(1, 0);
        x.tell(0, 4);
        Checks.due("digest()", x.digest(), reckoned(2, 1, 0, 0, 3, 1, 0, 0, 1,
            1, 4, 1, -1, 0, -1,
            1, 3, 2, 1, -1, 0,
            2, 1, 1));
    }

    private static void digestOfRoses() {
        HedgeNews x = Checks.taught("hedge a hush 1;rose r patience 9;rose s patience 1;");
        x.roseListens(0, 0);
        x.tell(0, 9);
        x.roseListens(1, 0);
        x.tell(0, 9);
        Checks.due("digest()", x.digest(), reckoned(1, 2, 0, 0, 3, 0, 1, 0, 0,
            2, 9, 1, -1, 0, -1,
            16, 2, 1, 8, 0, 0));
    }

    private static void digestReturned() {
        HedgeNews x = inTheMidst();
        Checks.due("digest() asked once more", x.digest(), x.digest());
        Checks.due("digest() of another that is the same", x.digest(), inTheMidst().digest());
    }
}
