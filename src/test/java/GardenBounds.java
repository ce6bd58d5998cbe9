/** The bounds that the sections "2. Listeners" and "3. News" name, sentence by sentence. */
final class GardenBounds {
    private static final String THREE = "hedge a hush 1;hedge b hush 1;hedge c hush 1;rose r patience 9;rose s patience 2;";

    private GardenBounds() {
    }

    static void look() {
        Sentences.in("2. Listeners");
        listening();
        leaving();
        Sentences.in("3. News");
        news();
        roses();
        orders();
        dayAndTests();
        RefusedCalls.look();
        headings();
    }

    private static void listening() {
        Sentences.says("Each hedge has a row of listeners, hedges and roses, in the order in which they came to listen.",
            GardenBounds::rowInTheirOrder);
        String atTheEnd = "Listening to a hedge puts one at the end of its row;";
        Sentences.says(atTheEnd, "of an empty row", GardenBounds::endOfAnEmptyRow);
        Sentences.says(atTheEnd, "of a row that is full then", GardenBounds::endOfAFullRow);
        Sentences.says(atTheEnd, "when it was in it before", GardenBounds::endWhenItComesAgain);
        String notYet = "it can be done if this one is not in the row yet";
        Sentences.says(notYet, "by hand", GardenBounds::onceMoreByHand);
        Sentences.says(notYet, "by order", GardenBounds::onceMoreByOrder);
        Sentences.says(notYet, "but in that of another hedge", GardenBounds::inAnotherRow);
        Sentences.says("and is not this very hedge.", "by hand", GardenBounds::itselfByHand);
        Sentences.says("and is not this very hedge.", "by order", GardenBounds::itselfByOrder);
        Sentences.says("and is not this very hedge.", "but a rose of the same number", GardenBounds::sameNumber);
    }

    private static void rowInTheirOrder() {
        HedgeNews x = Checks.taught(THREE);
        dueRow(x, 0, -1, -1, -1, -1);
        x.roseListens(1, 0);
        x.hedgeListens(2, 0);
        x.roseListens(0, 0);
        x.hedgeListens(1, 0);
        dueRow(x, 0, 3, 1, 2, 0);
        Checks.due("listenersOf(1) of another row", x.listenersOf(1), 0);
        Checks.due("listenersOf(2) of another row", x.listenersOf(2), 0);
    }

    /** The places of b, c, r and s in the row of a hedge of THREE, with which the row is full. */
    private static void dueRow(HedgeNews x, int hedge, int b, int c, int r, int s) {
        Checks.due("hedgeInRow(1, " + hedge + ")", x.hedgeInRow(1, hedge), b);
        Checks.due("hedgeInRow(2, " + hedge + ")", x.hedgeInRow(2, hedge), c);
        Checks.due("roseInRow(0, " + hedge + ")", x.roseInRow(0, hedge), r);
        Checks.due("roseInRow(1, " + hedge + ")", x.roseInRow(1, hedge), s);
        int listeners = (b < 0 ? 0 : 1) + (c < 0 ? 0 : 1) + (r < 0 ? 0 : 1) + (s < 0 ? 0 : 1);
        Checks.due("listenersOf(" + hedge + ")", x.listenersOf(hedge), listeners);
    }

    private static void endOfAnEmptyRow() {
        HedgeNews x = Checks.taught(THREE + "listen c to b;");
        Checks.due("hedgeListens(1, 0)", x.hedgeListens(1, 0), 0);
        Checks.due("roseListens(0, 2)", x.roseListens(0, 2), 0);
        x.passDays(1);
        Checks.due("hedgeInRow(2, 1)", x.hedgeInRow(2, 1), 0);
    }

    private static void endOfAFullRow() {
        for (int hedge = 0; hedge < 8; hedge += 7) {
            HedgeNews x = Checks.taught(Gardens.hedges(8) + Gardens.roses(8));
            int place = 0;
            for (int i = 7; i >= 0; i--) {
                Checks.due("roseListens(" + i + ", " + hedge + ")", x.roseListens(i, hedge), place++);
                if (i != hedge) {
                    Checks.due("hedgeListens(" + i + ", " + hedge + ")", x.hedgeListens(i, hedge), place++);
                }
            }
            Checks.due("listenersOf(" + hedge + ")", x.listenersOf(hedge), 15);
            place = 0;
            for (int i = 7; i >= 0; i--) {
                int full = hedge;
                int listener = i;
                Checks.due("roseInRow(" + i + ", " + hedge + ")", x.roseInRow(i, hedge), place++);
                Checks.due("hedgeInRow(" + i + ", " + hedge + ")", x.hedgeInRow(i, hedge), i == hedge ? -1 : place++);
                Checks.dueThrow("roseListens to a full row", x, Checks.ISE, () -> x.roseListens(listener, full));
                Checks.dueThrow("hedgeListens to a full row", x, Checks.ISE, () -> x.hedgeListens(listener, full));
            }
            Checks.due("listenersOf(" + hedge + ") then", x.listenersOf(hedge), 15);
        }
    }

    private static void endWhenItComesAgain() {
        HedgeNews x = Checks.taught(THREE + "leave b to a;listen b to a;");
        x.roseListens(0, 0);
        x.hedgeListens(1, 0);
        x.hedgeListens(2, 0);
        x.roseLeaves(0, 0);
        Checks.due("roseListens(0, 0) again", x.roseListens(0, 0), 2);
        dueRow(x, 0, 0, 1, 2, -1);
        x.passDays(1);
        dueRow(x, 0, 2, 0, 1, -1);
    }

    private static void onceMoreByHand() {
        HedgeNews x = Checks.taught(THREE);
        x.hedgeListens(1, 0);
        x.roseListens(0, 0);
        x.hedgeListens(2, 0);
        Checks.dueThrow("hedgeListens(1, 0), first in the row", x, Checks.ISE, () -> x.hedgeListens(1, 0));
        Checks.dueThrow("roseListens(0, 0), in the middle", x, Checks.ISE, () -> x.roseListens(0, 0));
        Checks.dueThrow("hedgeListens(2, 0), last in the row", x, Checks.ISE, () -> x.hedgeListens(2, 0));
        dueRow(x, 0, 0, 2, 1, -1);
    }

    private static void onceMoreByOrder() {
        HedgeNews x = Checks.taught(THREE + "listen b to a;listen r to a;tell a with 9;listen r to a;listen b to a;");
        x.passDays(1);
        Checks.due("ordersCarriedOut()", x.ordersCarriedOut(), 3);
        dueRow(x, 0, 0, -1, 1, -1);
        Checks.due("countOf(0), which came no second time", x.countOf(0), 1);
        x.passDays(1);
        Checks.due("ordersCarriedOut() a day on", x.ordersCarriedOut(), 4);
        dueRow(x, 0, 0, -1, 1, -1);
    }

    private static void inAnotherRow() {
        HedgeNews x = Checks.taught(THREE + "listen s to c;");
        x.roseListens(1, 0);
        Checks.due("roseListens(1, 1)", x.roseListens(1, 1), 0);
        x.hedgeListens(0, 1);
        Checks.due("hedgeListens(0, 2)", x.hedgeListens(0, 2), 0);
        Checks.due("hedgeListens(1, 0), which hears it", x.hedgeListens(1, 0), 1);
        x.passDays(1);
        Checks.due("roseInRow(1, 2)", x.roseInRow(1, 2), 1);
        Checks.due("hedgesOf(1)", x.hedgesOf(1), 3);
    }

    private static void itselfByHand() {
        HedgeNews x = Checks.taught(Gardens.hedges(8));
        for (int i = 0; i < 8; i++) {
            int hedge = i;
            Checks.dueThrow("hedgeListens(" + i + ", " + i + ")", x, Checks.ISE, () -> x.hedgeListens(hedge, hedge));
            Checks.due("listenersOf(" + i + ")", x.listenersOf(i), 0);
        }
    }

    private static void itselfByOrder() {
        HedgeNews x = Checks.taught(THREE + "listen a to a;listen c to c;");
        x.passDays(2);
        Checks.due("ordersCarriedOut()", x.ordersCarriedOut(), 0);
        Checks.due("listenersOf(0)", x.listenersOf(0), 0);
        Checks.due("listenersOf(2)", x.listenersOf(2), 0);
    }

    private static void sameNumber() {
        HedgeNews x = Checks.taught(THREE + "listen s to b;");
        Checks.due("roseListens(0, 0)", x.roseListens(0, 0), 0);
        x.passDays(1);
        Checks.due("roseInRow(1, 1)", x.roseInRow(1, 1), 0);
        Checks.due("hedgeInRow(0, 0)", x.hedgeInRow(0, 0), -1);
        Checks.due("hedgeListens(1, 0)", x.hedgeListens(1, 0), 1);
        Checks.dueThrow("hedgeListens(0, 0)", x, Checks.ISE, () -> x.hedgeListens(0, 0));
    }

    private static void leaving() {
        String takesOut = "Leaving takes one out of it;";
        Sentences.says(takesOut, "the first", () -> leavesPlace(0));
        Sentences.says(takesOut, "one in the middle", () -> leavesPlace(7));
        Sentences.says(takesOut, "the last of a full row", () -> leavesPlace(14));
        Sentences.says(takesOut, "the only one", GardenBounds::theOnlyOneLeaves);
        Sentences.says("it can be done if this one is in it.", "by hand", GardenBounds::notThereByHand);
        Sentences.says("it can be done if this one is in it.", "by order", GardenBounds::notThereByOrder);
    }

    /** Of a full row: the hedges h1 to h7 stand in the places 0 to 6, and the roses in 7 to 14. */
    private static void leavesPlace(int place) {
        HedgeNews x = Checks.taught(Gardens.hedges(8) + Gardens.roses(8));
        for (int i = 1; i < 8; i++) {
            x.hedgeListens(i, 0);
        }
        for (int i = 0; i < 8; i++) {
            x.roseListens(i, 0);
            x.roseListens(i, 1);
        }
        Checks.due("leaving, then listen", place < 7 ? x.hedgeLeaves(place + 1, 0) : x.roseLeaves(place - 7, 0), 14);
        for (int i = 0; i < 15; i++) {
            int got = i < 7 ? x.hedgeInRow(i + 1, 0) : x.roseInRow(i - 7, 0);
            Checks.due("the place of who stood in " + i, got, i < place ? i : i == place ? -1 : i - 1);
        }
        Checks.due("listenersOf(0)", x.listenersOf(0), 14);
        Checks.due("listenersOf(1), another row", x.listenersOf(1), 8);
    }

    private static void theOnlyOneLeaves() {
        HedgeNews x = Checks.taught(THREE + "leave r to a;");
        x.hedgeListens(1, 0);
        Checks.due("hedgeLeaves(1, 0)", x.hedgeLeaves(1, 0), 0);
        Checks.due("hedgeInRow(1, 0)", x.hedgeInRow(1, 0), -1);
        x.roseListens(0, 0);
        x.passDays(1);
        Checks.due("ordersCarriedOut()", x.ordersCarriedOut(), 1);
        dueRow(x, 0, -1, -1, -1, -1);
        Checks.due("tell(0, 99)", x.tell(0, 99), 0);
    }

    private static void notThereByHand() {
        HedgeNews x = Checks.taught(THREE);
        Checks.dueThrow("hedgeLeaves(1, 0), an empty row", x, Checks.ISE, () -> x.hedgeLeaves(1, 0));
        Checks.dueThrow("roseLeaves(0, 0), an empty row", x, Checks.ISE, () -> x.roseLeaves(0, 0));
        Checks.dueThrow("hedgeLeaves(0, 0), itself", x, Checks.ISE, () -> x.hedgeLeaves(0, 0));
        x.hedgeListens(1, 2);
        x.roseListens(0, 2);
        x.roseListens(1, 0);
        Checks.dueThrow("hedgeLeaves(1, 0), in another row", x, Checks.ISE, () -> x.hedgeLeaves(1, 0));
        Checks.dueThrow("roseLeaves(0, 0), in another row", x, Checks.ISE, () -> x.roseLeaves(0, 0));
        Checks.dueThrow("hedgeLeaves(2, 1), the other way round", x, Checks.ISE, () -> x.hedgeLeaves(2, 1));
        Checks.dueThrow("hedgeLeaves(1, 0), a rose of this number is there", x, Checks.ISE, () -> x.hedgeLeaves(1, 0));
        x.roseLeaves(1, 0);
        Checks.dueThrow("roseLeaves(1, 0) again", x, Checks.ISE, () -> x.roseLeaves(1, 0));
    }

    private static void notThereByOrder() {
        HedgeNews x = Checks.taught(THREE + "leave b to a;leave r to a;leave a to a;leave s to b;leave s to b;");
        x.hedgeListens(1, 2);
        x.roseListens(0, 2);
        x.roseListens(1, 1);
        x.passDays(1);
        Checks.due("ordersCarriedOut()", x.ordersCarriedOut(), 1);
        Checks.due("listenersOf(0)", x.listenersOf(0), 0);
        Checks.due("listenersOf(1)", x.listenersOf(1), 0);
        Checks.due("listenersOf(2)", x.listenersOf(2), 2);
    }

    private static void news() {
        Sentences.says("A news has a loudness, 1 to 99.", GardenBounds::loudnessOneTo99);
        Sentences.namesNoBound("Telling it to a hedge goes like this.");
        Sentences.says("The hedge hears it.", GardenBounds::hedgeHears);
        String toAll = "A hedge that hears it the first time since it was told whispers it to all who listen to it, in their order,";
        Sentences.says(toAll, "to nobody", GardenBounds::whispersToNobody);
        Sentences.says(toAll, "to a full row", GardenBounds::whispersToAFullRow);
        Sentences.says(toAll, "the first time since it was told", GardenBounds::firstTimeOfEach);
        Sentences.says(toAll, "in their order", GardenBounds::whispersInTheirOrder);
        Sentences.says("if it is still 1 loud or louder then: it is less loud by the hush of this hedge.", GardenBounds::stillLoud);
        String cycle = "A hedge that hears it once more counts a cycle, and nothing else.";
        Sentences.says(cycle, "a cycle", GardenBounds::oneCycle);
        Sentences.says(cycle, "the most cycles of a news", GardenBounds::mostCycles);
        Sentences.says(cycle, "nothing else", GardenBounds::nothingElse);
        Sentences.says("All whispers come to those who hear them in the order in which they are whispered; what they bring about "
            + "comes behind all that were whispered ahead.", GardenBounds::orderOfWhispers);
        Sentences.says("Each hedge counts how often it heard something the first time, and remembers how loud that was the latest "
            + "time.", GardenBounds::heardAndLatest);
    }

    private static void loudnessOneTo99() {
        HedgeNews x = Checks.taught(THREE);
        Checks.dueThrow("tell(0, 0)", x, Checks.IAE, () -> x.tell(0, 0));
        Checks.dueThrow("tell(0, 100)", x, Checks.IAE, () -> x.tell(0, 100));
        Checks.due("tell(0, 1)", x.tell(0, 1), 0);
        Checks.due("latestOf(0)", x.latestOf(0), 1);
        Checks.due("tell(0, 99)", x.tell(0, 99), 0);
        Checks.due("latestOf(0)", x.latestOf(0), 99);
    }

    private static void hedgeHears() {
        HedgeNews x = Checks.taught("hedge a hush 9;");
        Checks.due("tell(0, 1)", x.tell(0, 1), 0);
        Checks.due("heardBy(0), though it is too quiet to be whispered", x.heardBy(0), 1);
        Checks.due("latestOf(0)", x.latestOf(0), 1);
        HedgeNews y = Checks.taught(Gardens.hedges(8));
        y.tell(7, 5);
        for (int i = 0; i < 8; i++) {
            Checks.due("heardBy(" + i + ")", y.heardBy(i), i == 7 ? 1 : 0);
        }
    }

    private static void whispersToNobody() {
        HedgeNews x = Checks.taught(THREE);
        x.hedgeListens(0, 1);
        x.roseListens(0, 1);
        Checks.due("tell(0, 99)", x.tell(0, 99), 0);
        Checks.due("whispers()", x.whispers(), 0);
        Checks.due("heardBy(1)", x.heardBy(1), 0);
        Checks.due("petalsOf(0)", x.petalsOf(0), 0);
    }

    private static void whispersToAFullRow() {
        HedgeNews x = Checks.taught(Gardens.hedges(8) + Gardens.roses(8));
        for (int i = 0; i < 8; i++) {
            x.roseListens(i, 3);
            if (i != 3) {
                x.hedgeListens(i, 3);
            }
        }
        Checks.due("tell(3, 50)", x.tell(3, 50), 15);
        for (int i = 0; i < 8; i++) {
            Checks.due("latestOf(" + i + ")", x.latestOf(i), i == 3 ? 50 : 49);
            Checks.due("petalsOf(" + i + ")", x.petalsOf(i), 49);
        }
    }

    private static void firstTimeOfEach() {
        HedgeNews x = Checks.taught(THREE);
        x.hedgeListens(1, 0);
        x.hedgeListens(0, 1);
        for (int times = 1; times <= 3; times++) {
            Checks.due("tell(0, 9), time " + times, x.tell(0, 9), 2);
            Checks.due("heardBy(0)", x.heardBy(0), times);
            Checks.due("heardBy(1)", x.heardBy(1), times);
            Checks.due("cycles()", x.cycles(), times);
        }
    }

    private static void whispersInTheirOrder() {
        HedgeNews x = Checks.taught("hedge a hush 1;hedge b hush 5;hedge c hush 1;hedge d hush 1;");
        x.hedgeListens(1, 0);
        x.hedgeListens(2, 0);
        x.hedgeListens(3, 1);
        x.hedgeListens(3, 2);
        x.tell(0, 50);
        Checks.due("latestOf(3), by b, which came first", x.latestOf(3), 44);
        x.hedgeLeaves(1, 0);
        x.hedgeListens(1, 0);
        x.tell(0, 50);
        Checks.due("latestOf(3), by c, which stands ahead now", x.latestOf(3), 48);
    }

    private static void stillLoud() {
        for (int hush = 1; hush <= 9; hush++) {
            HedgeNews x = Checks.taught("hedge a hush " + hush + ";hedge b hush 1;rose r patience 9;");
            x.hedgeListens(1, 0);
            x.roseListens(0, 0);
            Checks.due("tell(0, 1) with hush " + hush, x.tell(0, 1), 0);
            Checks.due("tell as loud as hush " + hush, x.tell(0, hush), 0);
            Checks.due("heardBy(1)", x.heardBy(1), 0);
            Checks.due("tell louder by 1 than hush " + hush, x.tell(0, hush + 1), 2);
            Checks.due("latestOf(1)", x.latestOf(1), 1);
            Checks.due("petalsOf(0)", x.petalsOf(0), 1);
            Checks.due("tell(0, 99) with hush " + hush, x.tell(0, 99), 2);
            Checks.due("latestOf(1)", x.latestOf(1), 99 - hush);
        }
    }

    private static void oneCycle() {
        HedgeNews x = Checks.taught(THREE);
        x.hedgeListens(1, 0);
        x.hedgeListens(0, 1);
        Checks.due("tell(0, 2), too quiet to come back", x.tell(0, 2), 1);
        Checks.due("cycles()", x.cycles(), 0);
        Checks.due("tell(0, 3), which comes back with 1", x.tell(0, 3), 2);
        Checks.due("cycles()", x.cycles(), 1);
    }

    private static void mostCycles() {
        HedgeNews x = Checks.taught(Gardens.hedges(8));
        for (int i = 0; i < 64; i++) {
            if (i / 8 != i % 8) {
                x.hedgeListens(i / 8, i % 8);
            }
        }
        Checks.due("tell(0, 99)", x.tell(0, 99), 56);
        Checks.due("cycles(), all but the seven that heard it first", x.cycles(), 49);
        Checks.due("tell(0, 2), of which nothing is left for a second whisper", x.tell(0, 2), 7);
        Checks.due("cycles()", x.cycles(), 49);
    }

    private static void nothingElse() {
        HedgeNews x = Checks.taught(THREE);
        x.hedgeListens(1, 0);
        x.hedgeListens(0, 1);
        x.roseListens(0, 0);
        Checks.due("tell(0, 50)", x.tell(0, 50), 3);
        Checks.due("cycles()", x.cycles(), 1);
        Checks.due("heardBy(0)", x.heardBy(0), 1);
        Checks.due("latestOf(0)", x.latestOf(0), 50);
        Checks.due("petalsOf(0), to which it is not whispered twice", x.petalsOf(0), 49);
        Checks.due("countOf(0)", x.countOf(0), 1);
    }

    private static void orderOfWhispers() {
        HedgeNews x = Checks.taught("hedge a hush 1;hedge b hush 1;hedge c hush 1;rose r patience 2;");
        x.hedgeListens(1, 0);
        x.hedgeListens(2, 0);
        x.hedgeListens(2, 1);
        x.roseListens(0, 2);
        x.roseListens(0, 1);
        Checks.due("tell(0, 50)", x.tell(0, 50), 5);
        Checks.due("latestOf(2), from a, behind which b whispers", x.latestOf(2), 49);
        Checks.due("cycles()", x.cycles(), 1);
        Checks.due("roseInRow(0, 1), whose whisper came first", x.roseInRow(0, 1), 1);
        Checks.due("roseInRow(0, 2), whose whisper came second", x.roseInRow(0, 2), -1);
    }

    private static void heardAndLatest() {
        HedgeNews x = Checks.taught(THREE);
        Checks.due("heardBy(0)", x.heardBy(0), 0);
        Checks.due("latestOf(0)", x.latestOf(0), 0);
        x.hedgeListens(1, 0);
        int[] loudnesses = {99, 1, 50, 2};
        int[] heard = {1, 1, 2, 3};
        int[] latest = {98, 98, 49, 1};
        for (int i = 0; i < 4; i++) {
            x.tell(0, loudnesses[i]);
            Checks.due("heardBy(0) behind " + loudnesses[i], x.heardBy(0), i + 1);
            Checks.due("latestOf(0) behind " + loudnesses[i], x.latestOf(0), loudnesses[i]);
            Checks.due("heardBy(1) behind " + loudnesses[i], x.heardBy(1), heard[i]);
            Checks.due("latestOf(1) behind " + loudnesses[i], x.latestOf(1), latest[i]);
        }
        Checks.due("heardBy(2)", x.heardBy(2), 0);
        Checks.due("latestOf(2)", x.latestOf(2), 0);
    }

    private static void roses() {
        Sentences.says("A rose that hears it has as many petals more as it is loud.", GardenBounds::petalsMore);
        String counts = "Each rose counts how often it heard something since it came to listen the latest time, to whichever hedge;";
        Sentences.says(counts, "it comes by hand", GardenBounds::countsAnewByHand);
        Sentences.says(counts, "it comes by order", GardenBounds::countsAnewByOrder);
        Sentences.says(counts, "it leaves", GardenBounds::countStaysWhenItLeaves);
        String leaves = "is that its patience, it leaves the hedge that whispered to it, at once, and counts from 0 again.";
        for (int patience = 1; patience <= 9; patience++) {
            int times = patience;
            Sentences.says(leaves, "a patience of " + patience, () -> hasPatience(times));
        }
        Sentences.says(leaves, "the hedge that whispered", GardenBounds::leavesTheWhisperer);
        Sentences.says(leaves, "at once", GardenBounds::leavesAtOnce);
        Sentences.says(leaves, "from 0 again", GardenBounds::countsFromZeroAgain);
    }

    private static void petalsMore() {
        HedgeNews x = Checks.taught(THREE);
        x.roseListens(0, 0);
        x.tell(0, 1);
        Checks.due("petalsOf(0) of nothing", x.petalsOf(0), 0);
        x.tell(0, 2);
        Checks.due("petalsOf(0) of the most quiet one", x.petalsOf(0), 1);
        x.tell(0, 99);
        Checks.due("petalsOf(0) of the loudest one", x.petalsOf(0), 99);
        x.tell(0, 99);
        Checks.due("petalsOf(0), more than a news is loud", x.petalsOf(0), 197);
        Checks.due("petalsOf(1)", x.petalsOf(1), 0);
    }

    private static void countsAnewByHand() {
        HedgeNews x = Checks.taught(THREE);
        x.roseListens(0, 0);
        Checks.due("countOf(0)", x.countOf(0), 0);
        x.tell(0, 5);
        x.tell(0, 5);
        Checks.due("countOf(0)", x.countOf(0), 2);
        Checks.dueThrow("roseListens(0, 0)", x, Checks.ISE, () -> x.roseListens(0, 0));
        Checks.due("countOf(0) when it cannot come", x.countOf(0), 2);
        x.roseListens(0, 1);
        Checks.due("countOf(0) when it comes to another hedge", x.countOf(0), 0);
        x.tell(0, 5);
        x.tell(1, 5);
        Checks.due("countOf(0), from both hedges", x.countOf(0), 2);
        x.roseLeaves(0, 0);
        x.roseListens(0, 0);
        Checks.due("countOf(0) when it comes to the same hedge", x.countOf(0), 0);
        Checks.due("countOf(1), another rose", x.countOf(1), 0);
    }

    private static void countsAnewByOrder() {
        HedgeNews x = Checks.taught(THREE + "listen r to b when day = 1;listen r to b when day = 2;");
        x.roseListens(0, 0);
        x.tell(0, 5);
        x.passDays(1);
        Checks.due("countOf(0)", x.countOf(0), 1);
        x.passDays(1);
        Checks.due("countOf(0) when it comes", x.countOf(0), 0);
        x.tell(0, 5);
        x.passDays(1);
        Checks.due("countOf(0) when it is there", x.countOf(0), 1);
    }

    private static void countStaysWhenItLeaves() {
        HedgeNews x = Checks.taught(THREE + "leave r to b;");
        x.roseListens(0, 0);
        x.roseListens(0, 1);
        x.tell(0, 5);
        x.tell(1, 5);
        x.roseLeaves(0, 0);
        Checks.due("countOf(0) when it leaves by hand", x.countOf(0), 2);
        x.passDays(1);
        Checks.due("ordersCarriedOut()", x.ordersCarriedOut(), 1);
        Checks.due("countOf(0) when it leaves by order", x.countOf(0), 2);
    }

    private static void hasPatience(int patience) {
        HedgeNews x = Checks.taught("hedge a hush 1;hedge b hush 1;rose r patience " + patience + ";rose s patience 9;");
        x.roseListens(0, 0);
        for (int times = 1; times < patience; times++) {
            x.tell(0, 5);
            Checks.due("countOf(0)", x.countOf(0), times);
            Checks.due("roseInRow(0, 0)", x.roseInRow(0, 0), 0);
            Checks.due("departures()", x.departures(), 0);
        }
        x.tell(0, 5);
        Checks.due("countOf(0) with enough", x.countOf(0), 0);
        Checks.due("roseInRow(0, 0) with enough", x.roseInRow(0, 0), -1);
        Checks.due("departures()", x.departures(), 1);
        Checks.due("petalsOf(0), with those of the latest whisper", x.petalsOf(0), 4 * patience);
        x.tell(0, 5);
        Checks.due("petalsOf(0) when it is gone", x.petalsOf(0), 4 * patience);
    }

    private static void leavesTheWhisperer() {
        HedgeNews x = Checks.taught(THREE);
        x.roseListens(1, 0);
        x.roseListens(1, 1);
        x.roseListens(0, 0);
        x.tell(0, 5);
        x.tell(1, 5);
        Checks.due("roseInRow(1, 0), the first that whispered", x.roseInRow(1, 0), 0);
        Checks.due("roseInRow(1, 1), the second", x.roseInRow(1, 1), -1);
        x.tell(0, 5);
        x.tell(0, 5);
        Checks.due("roseInRow(1, 0)", x.roseInRow(1, 0), -1);
        Checks.due("roseInRow(0, 0) comes up", x.roseInRow(0, 0), 0);
        Checks.due("departures()", x.departures(), 2);
    }

    private static void leavesAtOnce() {
        HedgeNews x = Checks.taught(THREE + "listen s to a;tell a with 9;tell c with 5 when hears s of a;tell a with 9;"
            + "tell b with 7 when not hears s of a;listen s to a;");
        x.passDays(1);
        Checks.due("ordersCarriedOut()", x.ordersCarriedOut(), 6);
        Checks.due("latestOf(2)", x.latestOf(2), 5);
        Checks.due("latestOf(1)", x.latestOf(1), 7);
        Checks.due("departures()", x.departures(), 1);
        Checks.due("roseInRow(1, 0) again", x.roseInRow(1, 0), 0);
    }

    /** Three whispers of one news to a rose with patience 2: it leaves the second hedge, and counts the third one. */
    private static void countsFromZeroAgain() {
        HedgeNews x = Checks.taught(THREE);
        x.hedgeListens(1, 0);
        x.hedgeListens(2, 0);
        for (int hedge = 0; hedge < 3; hedge++) {
            x.roseListens(1, hedge);
        }
        Checks.due("tell(0, 9)", x.tell(0, 9), 5);
        Checks.due("countOf(1)", x.countOf(1), 1);
        Checks.due("roseInRow(1, 0)", x.roseInRow(1, 0), 2);
        Checks.due("roseInRow(1, 1)", x.roseInRow(1, 1), -1);
        Checks.due("roseInRow(1, 2)", x.roseInRow(1, 2), 0);
        x.tell(2, 9);
        Checks.due("roseInRow(1, 2) behind its patience anew", x.roseInRow(1, 2), -1);
        Checks.due("countOf(1)", x.countOf(1), 0);
        x.tell(0, 9);
        Checks.due("countOf(1)", x.countOf(1), 1);
        x.tell(0, 9);
        Checks.due("departures()", x.departures(), 3);
        Checks.due("hedgesOf(1)", x.hedgesOf(1), 0);
    }

    private static void orders() {
        Sentences.namesNoBound("A day goes like this:");
        Sentences.says("1. Orders, in the order in which they are told,", GardenBounds::ordersInTheirOrder);
        String holds = "if the test holds as it comes to its turn (or there is none),";
        Sentences.says(holds, "as it comes to its turn", GardenBounds::testAtItsTurn);
        Sentences.says(holds, "or there is none", GardenBounds::noTest);
        Sentences.says("and if it can be done:", GardenBounds::ifItCanBeDone);
        Sentences.namesNoBound("listening, leaving, or telling the news with a loudness of the sum,");
        Sentences.says("held at 1 and 99, to the hedge.", "at 1", GardenBounds::heldAtOne);
        Sentences.says("held at 1 and 99, to the hedge.", "at 99", GardenBounds::heldAt99);
        Sentences.says("Each of these is carried out.", GardenBounds::carriedOut);
    }

    private static void ordersInTheirOrder() {
        StringBuilder text = new StringBuilder(THREE);
        for (int i = 1; i <= 16; i++) {
            text.append("tell a with ").append(i).append(" when heard of a = day * 16 + ").append(i - 1).append(';');
        }
        HedgeNews x = Checks.taught(text.toString());
        x.passDays(30);
        Checks.due("ordersCarriedOut()", x.ordersCarriedOut(), 480);
        Checks.due("latestOf(0)", x.latestOf(0), 16);
        HedgeNews y = Checks.taught(THREE + "leave b to a;listen b to a;");
        y.passDays(1);
        Checks.due("hedgeInRow(1, 0), which listens behind leaving", y.hedgeInRow(1, 0), 0);
        HedgeNews z = Checks.taught(THREE + "listen b to a;leave b to a;");
        z.passDays(1);
        Checks.due("hedgeInRow(1, 0), which leaves behind listening", z.hedgeInRow(1, 0), -1);
    }

    private static void testAtItsTurn() {
        HedgeNews x = Checks.taught(THREE + "tell b with 1 when heard of a = 1;tell a with 9 when heard of a = 0;"
            + "tell b with 2 when heard of a = 1;");
        x.passDays(1);
        Checks.due("heardBy(1)", x.heardBy(1), 1);
        Checks.due("latestOf(1)", x.latestOf(1), 2);
        x.passDays(1);
        Checks.due("heardBy(1) a day on", x.heardBy(1), 3);
        Checks.due("heardBy(0) a day on", x.heardBy(0), 1);
    }

    private static void noTest() {
        HedgeNews x = Checks.taught(THREE + "tell a with 1;");
        x.passDays(30);
        Checks.due("heardBy(0)", x.heardBy(0), 30);
        HedgeNews y = Checks.taught(THREE + "tell a with 1;tell a with 1 when 1 = 2;listen b to a when 1 = 2;tell a with 1;");
        y.passDays(30);
        Checks.due("heardBy(0)", y.heardBy(0), 60);
        Checks.due("listenersOf(0)", y.listenersOf(0), 0);
        HedgeNews z = Checks.taught(THREE);
        Checks.due("passDays(30) without orders", z.passDays(30), 0);
        Checks.due("ordersCarriedOut() without orders", z.ordersCarriedOut(), 0);
    }

    private static void ifItCanBeDone() {
        HedgeNews x = Checks.taught(THREE + "leave b to a;listen a to a;listen b to a;listen b to a;leave b to a;leave b to a;"
            + "leave r to c;listen r to c;listen r to c;");
        x.passDays(1);
        Checks.due("ordersCarriedOut()", x.ordersCarriedOut(), 3);
        Checks.due("listenersOf(0)", x.listenersOf(0), 0);
        Checks.due("listenersOf(2)", x.listenersOf(2), 1);
    }

    private static void dueLatest(String sum, int want) {
        HedgeNews x = Checks.taught(THREE + "tell b with " + sum + ";");
        x.passDays(1);
        Checks.due("latestOf(1) behind tell b with " + sum, x.latestOf(1), want);
        Checks.due("ordersCarriedOut()", x.ordersCarriedOut(), 1);
    }

    private static void heldAtOne() {
        dueLatest("2", 2);
        dueLatest("1", 1);
        dueLatest("0", 1);
        dueLatest("-1", 1);
        dueLatest("-100", 1);
        dueLatest("50 / 0", 1);
        dueLatest(Gardens.value(Integer.MIN_VALUE), 1);
        dueLatest(Gardens.value(Integer.MAX_VALUE) + " + 1", 1);
        dueLatest("petals of r", 1);
    }

    private static void heldAt99() {
        dueLatest("98", 98);
        dueLatest("99", 99);
        dueLatest("100", 99);
        dueLatest("128 + 256", 99);
        dueLatest("999999", 99);
        dueLatest(Gardens.value(Integer.MAX_VALUE), 99);
        dueLatest(Gardens.value(Integer.MIN_VALUE) + " - 1", 99);
    }

    private static void carriedOut() {
        HedgeNews x = Checks.taught(THREE + "listen r to a;tell a with 1;leave r to a;tell a with 1 when 1 = 2;");
        Checks.due("ordersCarriedOut()", x.ordersCarriedOut(), 0);
        x.passDays(1);
        Checks.due("ordersCarriedOut() behind a day", x.ordersCarriedOut(), 3);
        x.passDays(30);
        Checks.due("ordersCarriedOut() behind 31 days", x.ordersCarriedOut(), 93);
    }

    private static void dayAndTests() {
        Sentences.says("2. Each rose loses a petal, if it has some.", "if it has none", GardenBounds::losesNoPetal);
        Sentences.says("2. Each rose loses a petal, if it has some.", "the last one", GardenBounds::losesTheLastPetal);
        Sentences.says("2. Each rose loses a petal, if it has some.", "each rose", GardenBounds::eachRoseLoses);
        Sentences.says("3. The day is 1 greater.", GardenBounds::dayIsGreater);
        Sentences.says("In tests and sums day is the day,", GardenBounds::dayInTests);
        Sentences.says("cycles and whispers how many there were in all,", GardenBounds::cyclesAndWhispersInTests);
        Sentences.says("heard and latest those of a hedge (0 if it heard nothing),", GardenBounds::heardAndLatestInTests);
        Sentences.says("petals those of a rose;", GardenBounds::petalsInTests);
        String hears = "hears holds if the first one is in the row of the second one.";
        Sentences.says(hears, "an empty row", GardenBounds::hearsOfAnEmptyRow);
        Sentences.says(hears, "the first one, the second one", GardenBounds::hearsFirstOfSecond);
        Sentences.says("Both sides of and and or are reckoned;", GardenBounds::bothSides);
        Sentences.says("and binds more than or, not more than and.", GardenBounds::bindsMore);
    }

    private static void losesNoPetal() {
        HedgeNews x = Checks.taught(THREE);
        x.passDays(1);
        Checks.due("petalsOf(0)", x.petalsOf(0), 0);
        x.passDays(30);
        Checks.due("petalsOf(0)", x.petalsOf(0), 0);
        Checks.due("petalsAfter(0, 30)", x.petalsAfter(0, 30), 0);
    }

    private static void losesTheLastPetal() {
        HedgeNews x = Checks.taught(THREE);
        x.roseListens(0, 0);
        x.tell(0, 3);
        x.passDays(1);
        Checks.due("petalsOf(0), one of two", x.petalsOf(0), 1);
        x.passDays(1);
        Checks.due("petalsOf(0), none of one", x.petalsOf(0), 0);
        x.passDays(1);
        Checks.due("petalsOf(0), none of none", x.petalsOf(0), 0);
    }

    private static void eachRoseLoses() {
        HedgeNews x = Checks.taught("hedge a hush 1;" + Gardens.roses(8));
        for (int i = 0; i < 8; i++) {
            x.roseListens(i, 0);
        }
        x.tell(0, 99);
        x.passDays(1);
        for (int i = 0; i < 8; i++) {
            Checks.due("petalsOf(" + i + ")", x.petalsOf(i), 97);
        }
        HedgeNews y = Checks.taught("hedge a hush 1;rose r patience 9;tell a with 2;tell a with petals of r + 40;");
        y.roseListens(0, 0);
        y.passDays(1);
        Checks.due("latestOf(0), ahead of losing", y.latestOf(0), 41);
        Checks.due("petalsOf(0), behind the orders", y.petalsOf(0), 40);
    }

    private static void dayIsGreater() {
        HedgeNews x = Checks.taught(THREE + "tell a with 1 when day = 29;");
        Checks.due("day()", x.day(), 0);
        x.passDays(1);
        Checks.due("day()", x.day(), 1);
        x.passDays(28);
        Checks.due("day()", x.day(), 29);
        Checks.due("ordersCarriedOut()", x.ordersCarriedOut(), 0);
        x.passDays(1);
        Checks.due("day()", x.day(), 30);
        Checks.due("ordersCarriedOut()", x.ordersCarriedOut(), 1);
    }

    private static void dayInTests() {
        HedgeNews x = Checks.taught(THREE + "tell a with day + 10;tell b with 1 when day = 0;");
        x.passDays(1);
        Checks.due("latestOf(0) in the day 0", x.latestOf(0), 10);
        Checks.due("heardBy(1)", x.heardBy(1), 1);
        x.passDays(30);
        Checks.due("latestOf(0) in the day 30", x.latestOf(0), 40);
        Checks.due("heardBy(1)", x.heardBy(1), 1);
    }

    private static void cyclesAndWhispersInTests() {
        HedgeNews x = Checks.taught(THREE + "tell c with 1 when cycles = 0 and whispers = 0;tell a with 5;"
            + "tell c with 2 when cycles = 1 and whispers = 2;tell c with 3 when cycles = 4 and whispers = 8;");
        x.hedgeListens(1, 0);
        x.hedgeListens(0, 1);
        x.passDays(1);
        Checks.due("heardBy(2) at first, and in the same day", x.heardBy(2), 2);
        Checks.due("latestOf(2)", x.latestOf(2), 2);
        x.tell(0, 9);
        x.tell(0, 9);
        x.passDays(1);
        Checks.due("latestOf(2), with those by hand", x.latestOf(2), 3);
        Checks.due("heardBy(2)", x.heardBy(2), 3);
    }

    private static void heardAndLatestInTests() {
        HedgeNews x = Checks.taught(THREE + "tell c with 1 when heard of a = 0 and latest of a = 0;tell a with 99;"
            + "tell c with 2 when heard of a = 1 and latest of a = 99 and heard of b = 0 and latest of b = 0;"
            + "tell a with 1;tell c with 3 when heard of a = 2 and latest of a = 1;");
        x.passDays(1);
        Checks.due("heardBy(2)", x.heardBy(2), 3);
        Checks.due("latestOf(2)", x.latestOf(2), 3);
    }

    private static void petalsInTests() {
        HedgeNews x = Checks.taught(THREE + "tell c with 1 when petals of r = 0 and petals of s = 0;tell a with 99;"
            + "tell c with 2 when petals of r = 98 and petals of s = 0;tell c with 3 when petals of r = 195;");
        x.roseListens(0, 0);
        x.passDays(1);
        Checks.due("latestOf(2)", x.latestOf(2), 2);
        Checks.due("heardBy(2)", x.heardBy(2), 2);
        x.passDays(1);
        Checks.due("latestOf(2), 97 and 98 a day on", x.latestOf(2), 3);
    }

    private static void dueHears(HedgeNews x, String of, int ordersBehind) {
        x.passDays(1);
        Checks.due("ordersCarriedOut() behind a test whether " + of, x.ordersCarriedOut(), ordersBehind);
    }

    private static void hearsOfAnEmptyRow() {
        String[] none = {"a of a", "a of b", "b of a", "r of a", "s of b", "r of c"};
        for (String of : none) {
            dueHears(Checks.taught(THREE + "tell a with 1 when hears " + of + ";"), of, 0);
            dueHears(Checks.taught(THREE + "tell a with 1 when not hears " + of + ";"), of, 1);
        }
    }

    private static void hearsFirstOfSecond() {
        String[] tests = {"b of a", "a of b", "a of a", "b of b", "r of a", "r of b", "s of a", "s of b", "c of a"};
        boolean[] want = {true, false, false, false, false, true, true, false, false};
        for (int i = 0; i < tests.length; i++) {
            HedgeNews x = Checks.taught(THREE + "tell c with 1 when hears " + tests[i] + ";");
            x.hedgeListens(1, 0);
            x.roseListens(1, 0);
            x.roseListens(0, 1);
            dueHears(x, tests[i], want[i] ? 1 : 0);
        }
        HedgeNews y = Checks.taught(THREE + "tell c with 1 when hears r of a;");
        y.roseListens(0, 0);
        y.roseLeaves(0, 0);
        dueHears(y, "r of a, which it left", 0);
    }

    private static void bothSides() {
        Gardens.dueTest("1 = 2 and 1 / 0 = 0", false);
        Gardens.dueTest("1 / 0 = 0 and 1 = 2", false);
        Gardens.dueTest("1 = 1 or 1 / 0 = 1", true);
        Gardens.dueTest("1 / 0 = 1 or 1 = 1", true);
        // what the side that decides nothing leaves behind is nothing for what follows
        HedgeNews x = Checks.taught(THREE + "tell a with 7 when 1 = 2 and 3 = 3;tell b with 8 when 1 = 1 or 3 = 3;tell c with 9;");
        x.passDays(2);
        Checks.due("latestOf(0)", x.latestOf(0), 0);
        Checks.due("latestOf(1)", x.latestOf(1), 8);
        Checks.due("latestOf(2)", x.latestOf(2), 9);
        Checks.due("ordersCarriedOut()", x.ordersCarriedOut(), 4);
    }

    private static void bindsMore() {
        Gardens.dueTest("1=1 or 1=1 and 1=2", true);
        Gardens.dueTest("[1=1 or 1=1] and 1=2", false);
        Gardens.dueTest("1=2 and 1=1 or 1=1", true);
        Gardens.dueTest("1=2 and [1=1 or 1=1]", false);
        Gardens.dueTest("not 1=1 and 1=2", false);
        Gardens.dueTest("not [1=1 and 1=2]", true);
        Gardens.dueTest("not 1=2 or 1=1", true);
        Gardens.dueTest("not [1=2 or 1=1]", false);
        Gardens.dueTest("1=2 and 1=2 or 1=1 and 1=1", true);
        Gardens.dueTest("1=1 or 1=2 and 1=2 or 1=2", true);
    }

    private static void headings() {
        String[] calls = {"feed, trim, teach, errorAt", "hedges, roses, day, ordersCarriedOut, whispers, cycles, departures",
            "hushOf, heardBy, latestOf, listenersOf, hedgeInRow, roseInRow", "patienceOf, petalsOf, countOf, hedgesOf, fullest",
            "hedgeListens, roseListens, hedgeLeaves, roseLeaves, tell",
            "passDays, reach, loudnessAt, comesBack, petalsAfter, daysUntilLeft, bestToTell, meanPetals, digest"};
        String[] says = {"the language", "the garden", "hedges", "roses", "by hand", "days and what would be"};
        for (int i = 0; i < calls.length; i++) {
            Sentences.namesNoBound("Ahead of the calls " + calls[i] + " the interface says: ---- " + says[i] + ".");
        }
    }
}
