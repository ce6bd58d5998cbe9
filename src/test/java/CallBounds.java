/** The bounds that the promises 1 to 29 name, sentence by sentence: what was told, who listens where, news and days. */
final class CallBounds {
    private static final String THREE = "hedge a hush 1;hedge b hush 1;hedge c hush 1;rose r patience 9;rose s patience 2;";
    private static final String NO_HEDGE = "Throws IndexOutOfBoundsException if there is no such hedge";
    private static final String NO_ROSE = "Throws IndexOutOfBoundsException if there is no such rose";
    private static final String NEITHER = "Throws IndexOutOfBoundsException if there is no such hedge or rose";
    private static final String NOT_DONE = "Throws IllegalStateException if it cannot be done";
    private static final int LEAST = Integer.MIN_VALUE;
    private static final int MOST = Integer.MAX_VALUE;

    private CallBounds() {
    }

    static void look() {
        Sentences.in("Promise 1");
        Sentences.says("Creates a garden without hedges, roses and orders, in the day 0.", CallBounds::newObject);
        feed();
        trim();
        teach();
        theGarden();
        hedges();
        roses();
        listenByHand();
        leaveByHand();
        tell();
        passDays();
    }

    private static void newObject() {
        HedgeNews x = new HedgeNews();
        Checks.due("hedges()", x.hedges(), 0);
        Checks.due("roses()", x.roses(), 0);
        Checks.due("day()", x.day(), 0);
        Checks.due("passDays(30)", x.passDays(30), 0);
        Checks.due("ordersCarriedOut()", x.ordersCarriedOut(), 0);
        Checks.due("day()", x.day(), 30);
        Checks.due("day() of another new one", new HedgeNews().day(), 0);
    }

    private static void feed() {
        Sentences.in("Promise 2");
        String appends = "Appends twenty bytes to the tape: the four bytes of each number, the highest one first.";
        Sentences.says(appends, "behind what is there", CallBounds::feedAppends);
        Sentences.says(appends, "the highest one first", CallBounds::feedHighestFirst);
        Sentences.says(appends, "bytes above 127", CallBounds::feedHighBytes);
        Sentences.says("Returns the number of bytes of the tape.", CallBounds::feedReturns);
        Sentences.says("Throws IllegalStateException if there would be more than 2000", CallBounds::feedTooMuch);
    }

    private static void feedAppends() {
        HedgeNews x = new HedgeNews();
        // "hedge a hush 7;rose " and "r patience 3;       "
        x.feed(0x68656467, 0x65206120, 0x68757368, 0x20373b72, 0x6f736520);
        Checks.due("feed", x.feed(0x72207061, 0x7469656e, 0x63652033, 0x3b202020, 0x20202020), 40);
        Checks.due("teach()", x.teach(), 0);
        Checks.due("hushOf(0)", x.hushOf(0), 7);
        Checks.due("patienceOf(0)", x.patienceOf(0), 3);
    }

    private static void feedOneSign(int place, int sign) {
        int[] numbers = {0x20202020, 0x20202020, 0x20202020, 0x20202020, 0x20202020};
        int shift = 24 - place % 4 * 8;
        numbers[place / 4] = numbers[place / 4] & ~(255 << shift) | sign << shift;
        HedgeNews x = new HedgeNews();
        Checks.due("feed", x.feed(numbers[0], numbers[1], numbers[2], numbers[3], numbers[4]), 20);
        Checks.due("teach() with " + sign + " in place " + place, x.teach(), 1);
        Checks.due("errorAt() with " + sign + " in place " + place, x.errorAt(), place);
    }

    private static void feedHighestFirst() {
        for (int place = 0; place < 20; place++) {
            feedOneSign(place, '!');
        }
    }

    private static void feedHighBytes() {
        for (int place = 0; place < 20; place++) {
            feedOneSign(place, 128);
            feedOneSign(place, 255);
            // the low seven bits of these are those of a blank, and of an a
            feedOneSign(place, 128 + 32);
            feedOneSign(place, 128 + 'a');
        }
        HedgeNews x = new HedgeNews();
        Checks.due("feed with the least and the most", x.feed(LEAST, MOST, -1, LEAST, MOST), 20);
        Checks.due("teach()", x.teach(), 1);
        Checks.due("errorAt()", x.errorAt(), 0);
    }

    private static void feedReturns() {
        HedgeNews x = new HedgeNews();
        for (int size = 20; size <= 2000; size += 20) {
            Checks.due("feed", x.feed(0, 0, 0, 0, 0), size);
        }
        x.trim(7);
        Checks.due("feed behind 7", x.feed(0, 0, 0, 0, 0), 27);
        x.trim(0);
        Checks.due("feed behind none", x.feed(0, 0, 0, 0, 0), 20);
        x.teach();
        Checks.due("feed behind teach", x.feed(0, 0, 0, 0, 0), 20);
    }

    private static void feedTooMuch() {
        HedgeNews x = new HedgeNews();
        for (int i = 0; i < 100; i++) {
            x.feed(0, 0, 0, 0, 0);
        }
        Checks.dueThrow("feed behind 2000", x, Checks.ISE, () -> x.feed(0, 0, 0, 0, 0));
        for (int size : new int[] {1999, 1982, 1981}) {
            Checks.due("trim(" + size + ")", x.trim(size), size);
            Checks.dueThrow("feed behind " + size, x, Checks.ISE, () -> x.feed(0, 0, 0, 0, 0));
            Checks.dueThrow("trim(" + (size + 1) + ")", x, Checks.IAE, () -> x.trim(size + 1));
        }
        x.trim(1980);
        Checks.due("feed behind 1980", x.feed(0, 0, 0, 0, 0), 2000);
        x.trim(1979);
        Checks.due("feed behind 1979", x.feed(0, 0, 0, 0, 0), 1999);
        x.teach();
        Checks.due("feed behind teach", x.feed(0, 0, 0, 0, 0), 20);
    }

    private static void trim() {
        Sentences.in("Promise 3");
        String shortens = "Shortens the tape to its first bytes.";
        Sentences.says(shortens, "some", CallBounds::trimToSome);
        Sentences.says(shortens, "none", CallBounds::trimToNone);
        Sentences.says(shortens, "all", CallBounds::trimToAll);
        Sentences.says("Returns n.", CallBounds::trimReturns);
        String notThere = "Throws IllegalArgumentException if n is not 0 to the number of bytes of the tape";
        Sentences.says(notThere, "below 0", CallBounds::trimBelowZero);
        Sentences.says(notThere, "more than there are", CallBounds::trimMoreThanThereAre);
        Sentences.says(notThere, "an empty tape", CallBounds::trimAnEmptyTape);
    }

    private static HedgeNews withTape(String text) {
        HedgeNews x = new HedgeNews();
        Checks.write(x, 0, text);
        return x;
    }

    private static void trimToSome() {
        HedgeNews x = withTape("hedge a hush 1;hedge b hush 2;");
        x.trim(15);
        Checks.due("teach()", x.teach(), 0);
        Checks.due("hedges()", x.hedges(), 1);
        HedgeNews y = withTape("hedge a hush 1;!!!!!");
        y.trim(13);
        Checks.write(y, 13, "8;");
        Checks.due("teach()", y.teach(), 0);
        Checks.due("hushOf(0)", y.hushOf(0), 8);
        HedgeNews z = withTape("hedge a hush 1;");
        z.trim(1);
        Checks.due("teach() of h", z.teach(), 1);
        Checks.due("errorAt()", z.errorAt(), 0);
    }

    private static void trimToNone() {
        HedgeNews x = withTape("!!!");
        x.trim(0);
        Checks.dueThrow("trim(1)", x, Checks.IAE, () -> x.trim(1));
        Checks.due("teach()", x.teach(), 0);
        Checks.due("hedges()", x.hedges(), 0);
    }

    private static void trimToAll() {
        HedgeNews x = withTape("hedge a hush 1;");
        x.trim(15);
        x.trim(15);
        Checks.due("teach()", x.teach(), 0);
        Checks.due("hedges()", x.hedges(), 1);
        HedgeNews y = withTape(" ".repeat(1985) + "hedge a hush 1;");
        y.trim(2000);
        Checks.due("teach() of 2000 bytes", y.teach(), 0);
        Checks.due("hedges()", y.hedges(), 1);
    }

    private static void trimReturns() {
        HedgeNews x = withTape("x".repeat(2000));
        for (int n : new int[] {2000, 2000, 1999, 20, 19, 1, 1, 0, 0}) {
            Checks.due("trim(" + n + ")", x.trim(n), n);
        }
    }

    private static void trimBelowZero() {
        HedgeNews x = withTape("hedge a hush 1;");
        Checks.dueThrow("trim(-1)", x, Checks.IAE, () -> x.trim(-1));
        Checks.dueThrow("trim(least)", x, Checks.IAE, () -> x.trim(LEAST));
        Checks.due("trim(15)", x.trim(15), 15);
    }

    private static void trimMoreThanThereAre() {
        HedgeNews x = withTape("hedge a hush 1;");
        for (int n : new int[] {16, 20, 2000, 2001, MOST}) {
            Checks.dueThrow("trim(" + n + ") of 15", x, Checks.IAE, () -> x.trim(n));
        }
        x.trim(14);
        Checks.dueThrow("trim(15) of 14", x, Checks.IAE, () -> x.trim(15));
        HedgeNews y = withTape(" ".repeat(2000));
        Checks.dueThrow("trim(2001) of 2000", y, Checks.IAE, () -> y.trim(2001));
    }

    private static void trimAnEmptyTape() {
        HedgeNews x = new HedgeNews();
        Checks.dueThrow("trim(1)", x, Checks.IAE, () -> x.trim(1));
        Checks.dueThrow("trim(-1)", x, Checks.IAE, () -> x.trim(-1));
        Checks.due("trim(0)", x.trim(0), 0);
        HedgeNews y = Checks.taught(THREE);
        Checks.dueThrow("trim(1) behind teach", y, Checks.IAE, () -> y.trim(1));
        Checks.due("trim(0) behind teach", y.trim(0), 0);
    }

    /** A garden with each error, 1 to 5, and the position of the error. */
    private static final String[] WITH_ERROR = {"hedge z hush 1", "hedge z hush 1;rose z patience 1;", "tell z with 1;",
        Gardens.hedges(8) + "hedge h8 hush 1;", "hedge z hush 0;"};
    private static final int[] ERROR_AT = {14, 20, 5, 16 * 8 + 6, 13};

    private static void teach() {
        Sentences.in("Promise 4");
        Sentences.says("Reads the tape as a garden, in the place of all that was told before;", CallBounds::inThePlaceOfAll);
        Sentences.says("all begins anew, in the day 0, and nobody listens.", CallBounds::allBeginsAnew);
        for (int error = 1; error <= 5; error++) {
            int number = error;
            Sentences.says("If it has an error, all stays (but the tape is empty).", "error " + error, () -> allStays(number));
            Sentences.says("Returns 0, or the error, 1 to 5.", "error " + error, () -> teachReturns(number));
        }
        Sentences.says("Returns 0, or the error, 1 to 5.", "0", CallBounds::teachReturnsZero);
        Sentences.in("Promise 5");
        Sentences.says("Returns the position of the error of the latest teach();", "from 0 to 2000", CallBounds::errorAtFromTo);
        Sentences.says("Returns the position of the error of the latest teach();", "the latest", CallBounds::errorAtLatest);
        Sentences.says("-1 if it had none, or there was none.", "it had none", CallBounds::errorAtNone);
        Sentences.says("-1 if it had none, or there was none.", "there was none", CallBounds::errorAtNoTeach);
    }

    private static void inThePlaceOfAll() {
        HedgeNews x = Checks.taught(Gardens.hedges(8) + Gardens.roses(8) + "tell h0 with 1;".repeat(16));
        Checks.due("teach()", Checks.teach(x, "hedge h1 hush 3;rose r1 patience 4;tell h1 with 50;"), 0);
        Checks.due("hedges()", x.hedges(), 1);
        Checks.due("roses()", x.roses(), 1);
        Checks.due("hushOf(0)", x.hushOf(0), 3);
        Checks.due("patienceOf(0)", x.patienceOf(0), 4);
        x.passDays(1);
        Checks.due("ordersCarriedOut()", x.ordersCarriedOut(), 1);
        Checks.due("latestOf(0)", x.latestOf(0), 50);
        Checks.due("teach() of nothing", x.teach(), 0);
        Checks.due("hedges()", x.hedges(), 0);
        Checks.due("roses()", x.roses(), 0);
        x.passDays(1);
        Checks.due("ordersCarriedOut() without orders", x.ordersCarriedOut(), 0);
    }

    private static void allBeginsAnew() {
        String text = THREE + "listen s to a;listen b to a;listen a to b;tell a with 50;";
        HedgeNews x = Checks.taught(text);
        x.passDays(9);
        x.roseListens(0, 2);
        x.tell(2, 9);
        Checks.due("teach() of the same", Checks.teach(x, text), 0);
        Checks.due("day()", x.day(), 0);
        Checks.due("ordersCarriedOut()", x.ordersCarriedOut(), 0);
        Checks.due("whispers()", x.whispers(), 0);
        Checks.due("cycles()", x.cycles(), 0);
        Checks.due("departures()", x.departures(), 0);
        for (int i = 0; i < 3; i++) {
            Checks.due("heardBy(" + i + ")", x.heardBy(i), 0);
            Checks.due("latestOf(" + i + ")", x.latestOf(i), 0);
            Checks.due("listenersOf(" + i + ")", x.listenersOf(i), 0);
        }
        for (int i = 0; i < 2; i++) {
            Checks.due("petalsOf(" + i + ")", x.petalsOf(i), 0);
            Checks.due("countOf(" + i + ")", x.countOf(i), 0);
            Checks.due("hedgesOf(" + i + ")", x.hedgesOf(i), 0);
        }
        Checks.due("daysUntilLeft(1), once more than now", x.daysUntilLeft(1), 2);
        x.passDays(1);
        Checks.due("ordersCarriedOut() in the day 0", x.ordersCarriedOut(), 4);
    }

    private static void allStays(int error) {
        HedgeNews x = Checks.taught(THREE + "listen s to a;listen b to a;tell a with 50;");
        HedgeNews twin = Checks.taught(THREE + "listen s to a;listen b to a;tell a with 50;");
        x.passDays(3);
        twin.passDays(3);
        Checks.due("teach()", Checks.teach(x, WITH_ERROR[error - 1]), error);
        Checks.dueThrow("trim(1)", x, Checks.IAE, () -> x.trim(1));
        Checks.due("digest()", x.digest(), twin.digest());
        Checks.due("hushOf(0)", x.hushOf(0), 1);
        Checks.due("patienceOf(0)", x.patienceOf(0), 9);
        Checks.due("petalsAfter(1, 9)", x.petalsAfter(1, 9), twin.petalsAfter(1, 9));
        Checks.due("passDays(4)", x.passDays(4), twin.passDays(4));
        Checks.due("digest() then", x.digest(), twin.digest());
        Checks.due("teach() of the empty tape", x.teach(), 0);
        HedgeNews y = new HedgeNews();
        Checks.due("teach() of a new one", Checks.teach(y, WITH_ERROR[error - 1]), error);
        Checks.due("hedges()", y.hedges(), 0);
        Checks.due("roses()", y.roses(), 0);
    }

    private static void teachReturns(int error) {
        Checks.dueError(WITH_ERROR[error - 1], error, ERROR_AT[error - 1]);
    }

    private static void teachReturnsZero() {
        Checks.due("teach() of a new one", new HedgeNews().teach(), 0);
        Checks.dueError("", 0, -1);
        Checks.dueError(" \n", 0, -1);
        Checks.dueError(THREE, 0, -1);
        Checks.dueError(Gardens.hedges(8) + Gardens.roses(8) + "tell h0 with 1;".repeat(16), 0, -1);
    }

    private static void errorAtFromTo() {
        Checks.dueError("!", 1, 0);
        Checks.dueError(" ".repeat(1999) + "!", 1, 1999);
        Checks.dueError(" ".repeat(1995) + "hedge", 1, 2000);
        for (int error = 1; error <= 5; error++) {
            Checks.dueError(WITH_ERROR[error - 1], error, ERROR_AT[error - 1]);
        }
    }

    private static void errorAtLatest() {
        HedgeNews x = new HedgeNews();
        for (int error = 5; error >= 1; error--) {
            Checks.teach(x, WITH_ERROR[error - 1]);
            Checks.due("errorAt() of error " + error, x.errorAt(), ERROR_AT[error - 1]);
            x.passDays(1);
            x.feed(0, 0, 0, 0, 0);
            x.trim(0);
            Checks.due("errorAt() later", x.errorAt(), ERROR_AT[error - 1]);
        }
    }

    private static void errorAtNone() {
        HedgeNews x = Checks.taught(THREE);
        Checks.due("errorAt()", x.errorAt(), -1);
        for (int error = 1; error <= 5; error++) {
            Checks.teach(x, WITH_ERROR[error - 1]);
            Checks.due("teach() of nothing", x.teach(), 0);
            Checks.due("errorAt() behind a good one", x.errorAt(), -1);
        }
    }

    private static void errorAtNoTeach() {
        HedgeNews x = new HedgeNews();
        Checks.due("errorAt() of a new one", x.errorAt(), -1);
        Checks.write(x, 0, "!");
        Checks.due("errorAt() of a tape not taught", x.errorAt(), -1);
    }

    private static void theGarden() {
        Sentences.in("Promise 6");
        Sentences.says("Returns how many hedges there are.", CallBounds::howManyHedges);
        Sentences.in("Promise 7");
        Sentences.says("Returns how many roses there are.", CallBounds::howManyRoses);
        Sentences.in("Promise 8");
        Sentences.says("Returns the day.", CallBounds::whichDay);
        Sentences.in("Promise 9");
        Sentences.says("Returns how many orders were carried out in all.", CallBounds::howManyOrders);
        Sentences.in("Promise 10");
        Sentences.says("Returns how many whispers there were in all.", CallBounds::howManyWhispers);
        Sentences.in("Promise 11");
        Sentences.says("Returns how many cycles there were in all.", CallBounds::howManyCycles);
        Sentences.in("Promise 12");
        Sentences.says("Returns how often roses left by themselves in all.", CallBounds::howManyDepartures);
    }

    private static void howManyHedges() {
        for (int count = 0; count <= 8; count++) {
            Checks.due("hedges()", Checks.taught(Gardens.hedges(count) + "rose r patience 1;").hedges(), count);
        }
    }

    private static void howManyRoses() {
        for (int count = 0; count <= 8; count++) {
            Checks.due("roses()", Checks.taught(Gardens.roses(count) + "hedge h hush 1;").roses(), count);
        }
    }

    private static void whichDay() {
        HedgeNews x = Checks.taught(THREE);
        Checks.due("day()", x.day(), 0);
        x.tell(0, 50);
        Checks.due("day() behind what is done by hand", x.day(), 0);
        for (int i = 1; i <= 100; i++) {
            x.passDays(30);
            Checks.due("day()", x.day(), 30 * i);
        }
    }

    private static void howManyOrders() {
        HedgeNews x = Checks.taught(THREE + "tell a with 1 when day > 0;listen b to a;");
        Checks.due("ordersCarriedOut()", x.ordersCarriedOut(), 0);
        x.tell(0, 1);
        x.roseListens(0, 0);
        x.roseLeaves(0, 0);
        Checks.due("ordersCarriedOut() behind what is done by hand", x.ordersCarriedOut(), 0);
        x.passDays(1);
        Checks.due("ordersCarriedOut() behind a day", x.ordersCarriedOut(), 1);
        x.passDays(30);
        Checks.due("ordersCarriedOut() behind 31 days", x.ordersCarriedOut(), 31);
    }

    private static void howManyWhispers() {
        HedgeNews x = Checks.taught(THREE + "tell a with 9;");
        Checks.due("whispers()", x.whispers(), 0);
        x.tell(0, 99);
        Checks.due("whispers() to nobody", x.whispers(), 0);
        x.hedgeListens(1, 0);
        x.roseListens(0, 1);
        x.tell(0, 1);
        Checks.due("whispers() of too quiet a news", x.whispers(), 0);
        x.tell(0, 2);
        Checks.due("whispers() by hand", x.whispers(), 1);
        x.passDays(1);
        Checks.due("whispers() by hand and by order", x.whispers(), 3);
    }

    private static void howManyCycles() {
        HedgeNews x = Checks.taught(THREE + "tell a with 3;");
        x.hedgeListens(1, 0);
        Checks.due("cycles()", x.cycles(), 0);
        x.tell(0, 99);
        Checks.due("cycles() of a news that comes round nowhere", x.cycles(), 0);
        x.hedgeListens(0, 1);
        x.tell(0, 2);
        Checks.due("cycles() of too quiet a news", x.cycles(), 0);
        x.tell(1, 3);
        Checks.due("cycles() by hand", x.cycles(), 1);
        x.passDays(2);
        Checks.due("cycles() by hand and by order", x.cycles(), 3);
    }

    private static void howManyDepartures() {
        HedgeNews x = Checks.taught(THREE + "leave s to c;listen s to c;tell c with 9;");
        x.roseListens(1, 0);
        x.roseLeaves(1, 0);
        Checks.due("departures() by hand", x.departures(), 0);
        x.passDays(2);
        Checks.due("departures() by order", x.departures(), 0);
        x.roseListens(1, 0);
        x.tell(0, 9);
        Checks.due("departures() with some patience", x.departures(), 0);
        x.tell(0, 9);
        Checks.due("departures() with enough", x.departures(), 1);
        x.tell(2, 9);
        x.tell(2, 9);
        Checks.due("departures() of the same rose", x.departures(), 2);
    }

    private static void hedges() {
        Sentences.in("Promise 13");
        Sentences.says("Returns its hush.", CallBounds::hush);
        Sentences.says(NO_HEDGE, () -> Gardens.dueNoHedge("hushOf", (x, no) -> x.hushOf(no)));
        Sentences.in("Promise 14");
        Sentences.says("Returns how often it heard something the first time.", CallBounds::heard);
        Sentences.says(NO_HEDGE, () -> Gardens.dueNoHedge("heardBy", (x, no) -> x.heardBy(no)));
        Sentences.in("Promise 15");
        Sentences.says("Returns how loud that was the latest time;", CallBounds::latest);
        Sentences.says("0 if it heard nothing.", CallBounds::latestOfNothing);
        Sentences.says(NO_HEDGE, () -> Gardens.dueNoHedge("latestOf", (x, no) -> x.latestOf(no)));
        Sentences.in("Promise 16");
        Sentences.says("Returns how many listen to it.", CallBounds::listeners);
        Sentences.says(NO_HEDGE, () -> Gardens.dueNoHedge("listenersOf", (x, no) -> x.listenersOf(no)));
        Sentences.in("Promise 17");
        Sentences.says("Returns the place of the first one in the row of the second one, from 0 on;",
            () -> firstAndLastPlace(true));
        Sentences.says("-1 if it is not there.", CallBounds::hedgeNotThere);
        Sentences.says(NO_HEDGE, "the first one", () -> Gardens.dueNoHedge("hedgeInRow", (x, no) -> x.hedgeInRow(no, 0)));
        Sentences.says(NO_HEDGE, "the second one", () -> Gardens.dueNoHedge("hedgeInRow", (x, no) -> x.hedgeInRow(0, no)));
        Sentences.in("Promise 18");
        Sentences.says("Returns the place of the rose in the row of the hedge, from 0 on;", () -> firstAndLastPlace(false));
        Sentences.says("-1 if it is not there.", CallBounds::roseNotThere);
        Sentences.says(NEITHER, "rose", () -> Gardens.dueNoRose("roseInRow", (x, no) -> x.roseInRow(no, 0)));
        Sentences.says(NEITHER, "hedge", () -> Gardens.dueNoHedge("roseInRow", (x, no) -> x.roseInRow(0, no)));
    }

    private static void hush() {
        StringBuilder text = new StringBuilder();
        for (int i = 1; i <= 8; i++) {
            text.append("hedge h").append(i).append(" hush ").append(10 - i).append(';');
        }
        HedgeNews x = Checks.taught(text.toString());
        for (int i = 0; i < 8; i++) {
            Checks.due("hushOf(" + i + ")", x.hushOf(i), 9 - i);
        }
        Checks.due("hushOf(0)", Checks.taught("hedge a hush 1;").hushOf(0), 1);
    }

    private static void heard() {
        HedgeNews x = Checks.taught(Gardens.hedges(8));
        x.hedgeListens(0, 7);
        x.hedgeListens(7, 0);
        Checks.due("heardBy(7)", x.heardBy(7), 0);
        x.tell(7, 1);
        Checks.due("heardBy(7)", x.heardBy(7), 1);
        Checks.due("heardBy(0), for which it was too quiet", x.heardBy(0), 0);
        x.tell(7, 99);
        Checks.due("heardBy(7), which hears it once more", x.heardBy(7), 2);
        Checks.due("heardBy(0)", x.heardBy(0), 1);
        x.reach(7, 99);
        Checks.due("heardBy(7) behind what would be", x.heardBy(7), 2);
        Checks.due("heardBy(3)", x.heardBy(3), 0);
    }

    private static void latest() {
        HedgeNews x = Checks.taught(Gardens.hedges(8));
        x.hedgeListens(0, 7);
        x.hedgeListens(7, 0);
        for (int loudness : new int[] {99, 1, 2, 50, 49}) {
            x.tell(7, loudness);
            Checks.due("latestOf(7)", x.latestOf(7), loudness);
            Checks.due("latestOf(0)", x.latestOf(0), loudness == 1 ? 98 : loudness - 1);
        }
    }

    private static void latestOfNothing() {
        HedgeNews x = Checks.taught(Gardens.hedges(8));
        x.hedgeListens(1, 0);
        x.tell(0, 1);
        for (int i = 1; i < 8; i++) {
            Checks.due("latestOf(" + i + ")", x.latestOf(i), 0);
        }
    }

    private static void listeners() {
        HedgeNews x = Checks.taught(Gardens.hedges(8) + Gardens.roses(7) + "rose q patience 1;");
        Checks.due("listenersOf(0)", x.listenersOf(0), 0);
        for (int i = 0; i < 8; i++) {
            x.roseListens(i, 0);
            Checks.due("listenersOf(0)", x.listenersOf(0), i + 1);
        }
        for (int i = 1; i < 8; i++) {
            x.hedgeListens(i, 0);
            Checks.due("listenersOf(0)", x.listenersOf(0), i + 8);
        }
        x.tell(0, 9);
        Checks.due("listenersOf(0), which one left by itself", x.listenersOf(0), 14);
        Checks.due("listenersOf(7)", x.listenersOf(7), 0);
    }

    /** In a full row the first place is 0, and the last one 14. */
    private static void firstAndLastPlace(boolean ofHedges) {
        HedgeNews x = Checks.taught(Gardens.hedges(8) + Gardens.roses(8));
        for (int hedge = 0; hedge < 2; hedge++) {
            for (int i = 0; i < 8; i++) {
                if (hedge == 0 == ofHedges) {
                    x.roseListens(i, hedge);
                } else if (i != hedge) {
                    x.hedgeListens(i, hedge);
                }
            }
            for (int i = 0; i < 8; i++) {
                if (hedge == 0 != ofHedges) {
                    x.roseListens(i, hedge);
                } else if (i != hedge) {
                    x.hedgeListens(i, hedge);
                }
            }
        }
        if (ofHedges) {
            Checks.due("hedgeInRow(7, 0), the last", x.hedgeInRow(7, 0), 14);
            Checks.due("hedgeInRow(0, 1), the first", x.hedgeInRow(0, 1), 0);
            Checks.due("hedgeInRow(1, 0)", x.hedgeInRow(1, 0), 8);
        } else {
            Checks.due("roseInRow(7, 0), the last", x.roseInRow(7, 0), 14);
            Checks.due("roseInRow(0, 1), the first", x.roseInRow(0, 1), 0);
            Checks.due("roseInRow(0, 0)", x.roseInRow(0, 0), 7);
        }
    }

    private static void hedgeNotThere() {
        HedgeNews x = Checks.taught(Gardens.hedges(8) + Gardens.roses(8));
        x.roseListens(1, 0);
        x.hedgeListens(2, 0);
        for (int i = 0; i < 8; i++) {
            Checks.due("hedgeInRow(" + i + ", " + i + "), itself", x.hedgeInRow(i, i), -1);
            Checks.due("hedgeInRow(" + i + ", 7), an empty row", x.hedgeInRow(i, 7), -1);
        }
        Checks.due("hedgeInRow(1, 0), a rose of this number is there", x.hedgeInRow(1, 0), -1);
        x.hedgeLeaves(2, 0);
        Checks.due("hedgeInRow(2, 0) when it left", x.hedgeInRow(2, 0), -1);
    }

    private static void roseNotThere() {
        HedgeNews x = Checks.taught(Gardens.hedges(8) + "rose q patience 1;" + Gardens.roses(7));
        x.hedgeListens(1, 0);
        x.roseListens(0, 0);
        for (int i = 0; i < 8; i++) {
            Checks.due("roseInRow(" + i + ", 7), an empty row", x.roseInRow(i, 7), -1);
        }
        Checks.due("roseInRow(1, 0), a hedge of this number is there", x.roseInRow(1, 0), -1);
        x.tell(0, 9);
        Checks.due("roseInRow(0, 0) when it left by itself", x.roseInRow(0, 0), -1);
        x.roseListens(0, 0);
        x.roseLeaves(0, 0);
        Checks.due("roseInRow(0, 0) when it left by hand", x.roseInRow(0, 0), -1);
    }

    private static void roses() {
        Sentences.in("Promise 19");
        Sentences.says("Returns its patience.", CallBounds::patience);
        Sentences.says(NO_ROSE, () -> Gardens.dueNoRose("patienceOf", (x, no) -> x.patienceOf(no)));
        Sentences.in("Promise 20");
        Sentences.says("Returns how many petals it has.", CallBounds::petals);
        Sentences.says(NO_ROSE, () -> Gardens.dueNoRose("petalsOf", (x, no) -> x.petalsOf(no)));
        Sentences.in("Promise 21");
        Sentences.says("Returns how often it heard something, as it counts.", CallBounds::count);
        Sentences.says(NO_ROSE, () -> Gardens.dueNoRose("countOf", (x, no) -> x.countOf(no)));
        Sentences.in("Promise 22");
        Sentences.says("Returns to how many hedges it listens.", CallBounds::hedgesOfARose);
        Sentences.says(NO_ROSE, () -> Gardens.dueNoRose("hedgesOf", (x, no) -> x.hedgesOf(no)));
        Sentences.in("Promise 23");
        Sentences.says("Returns the rose with the most petals", CallBounds::mostPetals);
        Sentences.says("of several the smallest number;", CallBounds::severalFullest);
        Sentences.says("-1 without any.", CallBounds::fullestOfNone);
    }

    private static void patience() {
        StringBuilder text = new StringBuilder();
        for (int i = 1; i <= 8; i++) {
            text.append("rose r").append(i).append(" patience ").append(10 - i).append(';');
        }
        HedgeNews x = Checks.taught(text + "hedge a hush 1;");
        for (int i = 0; i < 8; i++) {
            Checks.due("patienceOf(" + i + ")", x.patienceOf(i), 9 - i);
        }
        x.roseListens(0, 0);
        x.tell(0, 9);
        Checks.due("patienceOf(0), which is the same when it has heard something", x.patienceOf(0), 9);
        Checks.due("patienceOf(0)", Checks.taught("rose r patience 1;").patienceOf(0), 1);
    }

    private static void petals() {
        HedgeNews x = Checks.taught(Gardens.hedges(1) + Gardens.roses(8));
        for (int i = 0; i < 8; i++) {
            Checks.due("petalsOf(" + i + ")", x.petalsOf(i), 0);
        }
        x.roseListens(7, 0);
        x.tell(0, 3);
        Checks.due("petalsOf(7)", x.petalsOf(7), 2);
        x.passDays(1);
        Checks.due("petalsOf(7)", x.petalsOf(7), 1);
        x.passDays(2);
        Checks.due("petalsOf(7), never less than none", x.petalsOf(7), 0);
        Checks.due("petalsOf(6)", x.petalsOf(6), 0);
    }

    private static void count() {
        HedgeNews x = Checks.taught(Gardens.hedges(1) + Gardens.roses(8));
        Checks.due("countOf(7)", x.countOf(7), 0);
        x.roseListens(7, 0);
        for (int i = 1; i <= 8; i++) {
            x.tell(0, 9);
            Checks.due("countOf(7)", x.countOf(7), i);
        }
        x.tell(0, 9);
        Checks.due("countOf(7) as it leaves", x.countOf(7), 0);
        Checks.due("countOf(6)", x.countOf(6), 0);
    }

    private static void hedgesOfARose() {
        HedgeNews x = Checks.taught(Gardens.hedges(8) + "rose q patience 1;rose r patience 2;");
        Checks.due("hedgesOf(0)", x.hedgesOf(0), 0);
        for (int i = 0; i < 8; i++) {
            x.roseListens(0, i);
            Checks.due("hedgesOf(0)", x.hedgesOf(0), i + 1);
            Checks.due("hedgesOf(1)", x.hedgesOf(1), 0);
        }
        x.roseLeaves(0, 7);
        Checks.due("hedgesOf(0) when it left by hand", x.hedgesOf(0), 7);
        x.tell(0, 9);
        Checks.due("hedgesOf(0) when it left by itself", x.hedgesOf(0), 6);
        Checks.due("hedgesOf(0) without hedges", Checks.taught("rose r patience 1;").hedgesOf(0), 0);
    }

    private static void mostPetals() {
        for (int rose = 0; rose < 8; rose++) {
            HedgeNews x = Checks.taught("hedge a hush 1;hedge b hush 2;" + Gardens.roses(8));
            for (int i = 0; i < 8; i++) {
                x.roseListens(i, i == rose ? 0 : 1);
            }
            x.tell(0, 20);
            x.tell(1, 20);
            Checks.due("fullest(), which has a petal more than each other one", x.fullest(), rose);
        }
    }

    private static void severalFullest() {
        HedgeNews x = Checks.taught("hedge a hush 1;" + Gardens.roses(8));
        Checks.due("fullest() when none has a petal", x.fullest(), 0);
        for (int i = 7; i >= 2; i--) {
            x.roseListens(i, 0);
        }
        x.tell(0, 20);
        Checks.due("fullest() of six that have the same", x.fullest(), 2);
        Checks.due("fullest() of one alone", Checks.taught("rose r patience 1;").fullest(), 0);
    }

    private static void fullestOfNone() {
        Checks.due("fullest() of a new one", new HedgeNews().fullest(), -1);
        Checks.due("fullest() with hedges alone", Checks.taught(Gardens.hedges(8)).fullest(), -1);
        HedgeNews x = Checks.taught(Gardens.roses(8));
        x.teach();
        Checks.due("fullest() when all is gone", x.fullest(), -1);
    }

    private static void listenByHand() {
        Sentences.in("Promise 24");
        Sentences.says("A hedge listens to another one.", CallBounds::hedgeListens);
        Sentences.says("Returns its place in the row.", () -> placeOfListening(true));
        Sentences.says(NO_HEDGE, "who listens", () -> Gardens.dueNoHedge("hedgeListens", (x, no) -> x.hedgeListens(no, 0)));
        Sentences.says(NO_HEDGE, "to which one", () -> Gardens.dueNoHedge("hedgeListens", (x, no) -> x.hedgeListens(0, no)));
        Sentences.says(NOT_DONE, "it is there", () -> listensThere(true));
        Sentences.says(NOT_DONE, "it is this very hedge", CallBounds::listensToItself);
        Sentences.in("Promise 25");
        Sentences.says("A rose listens to a hedge.", CallBounds::roseListens);
        Sentences.says("Returns its place in the row.", () -> placeOfListening(false));
        Sentences.says(NEITHER, "rose", () -> Gardens.dueNoRose("roseListens", (x, no) -> x.roseListens(no, 0)));
        Sentences.says(NEITHER, "hedge", () -> Gardens.dueNoHedge("roseListens", (x, no) -> x.roseListens(0, no)));
        Sentences.says(NOT_DONE, () -> listensThere(false));
    }

    private static void hedgeListens() {
        HedgeNews x = Checks.taught(THREE);
        x.hedgeListens(2, 0);
        Checks.due("hedgeInRow(2, 0)", x.hedgeInRow(2, 0), 0);
        Checks.due("hedgeInRow(0, 2), the other way round", x.hedgeInRow(0, 2), -1);
        Checks.due("tell(0, 2)", x.tell(0, 2), 1);
        Checks.due("latestOf(2)", x.latestOf(2), 1);
    }

    private static void roseListens() {
        HedgeNews x = Checks.taught(THREE);
        x.roseListens(0, 2);
        Checks.due("roseInRow(0, 2)", x.roseInRow(0, 2), 0);
        Checks.due("countOf(0)", x.countOf(0), 0);
        Checks.due("tell(2, 2)", x.tell(2, 2), 1);
        Checks.due("petalsOf(0)", x.petalsOf(0), 1);
    }

    /** The places 0 to 14 of a row that becomes full. */
    private static void placeOfListening(boolean hedgesLast) {
        HedgeNews x = Checks.taught(Gardens.hedges(8) + Gardens.roses(8));
        int place = hedgesLast ? 0 : dueHedgesListen(x, 0);
        for (int i = 0; i < 8; i++) {
            Checks.due("roseListens(" + i + ", 7)", x.roseListens(i, 7), place);
            Checks.due("roseInRow(" + i + ", 7)", x.roseInRow(i, 7), place);
            place++;
        }
        place = hedgesLast ? dueHedgesListen(x, place) : place;
        Checks.due("places", place, 15);
        if (hedgesLast) {
            x.hedgeLeaves(0, 7);
            Checks.due("hedgeListens(0, 7) again", x.hedgeListens(0, 7), 14);
        } else {
            x.roseLeaves(0, 7);
            Checks.due("roseListens(0, 7) again", x.roseListens(0, 7), 14);
        }
    }

    private static int dueHedgesListen(HedgeNews x, int firstPlace) {
        for (int i = 0; i < 7; i++) {
            Checks.due("hedgeListens(" + i + ", 7)", x.hedgeListens(i, 7), firstPlace + i);
            Checks.due("hedgeInRow(" + i + ", 7)", x.hedgeInRow(i, 7), firstPlace + i);
        }
        return firstPlace + 7;
    }

    private static void listensThere(boolean hedges) {
        HedgeNews x = Checks.taught(Gardens.hedges(8) + Gardens.roses(8));
        for (int i = 0; i < 7; i++) {
            x.hedgeListens(i, 7);
            x.roseListens(i, 7);
        }
        for (int i = 0; i < 7; i++) {
            int who = i;
            if (hedges) {
                Checks.dueThrow("hedgeListens(" + i + ", 7)", x, Checks.ISE, () -> x.hedgeListens(who, 7));
            } else {
                Checks.dueThrow("roseListens(" + i + ", 7)", x, Checks.ISE, () -> x.roseListens(who, 7));
            }
        }
        Checks.due("listenersOf(7)", x.listenersOf(7), 14);
    }

    private static void listensToItself() {
        HedgeNews x = Checks.taught(Gardens.hedges(8));
        for (int i = 0; i < 8; i++) {
            int who = i;
            Checks.dueThrow("hedgeListens(" + i + ", " + i + ")", x, Checks.ISE, () -> x.hedgeListens(who, who));
        }
        Checks.due("listenersOf(0)", x.listenersOf(0), 0);
    }

    private static void leaveByHand() {
        Sentences.in("Promise 26");
        Sentences.says("A hedge leaves another one.", CallBounds::hedgeLeaves);
        Sentences.says("Returns how many listen to the other one then.", () -> listenersBehindLeaving(true));
        Sentences.says(NO_HEDGE, "who leaves", () -> Gardens.dueNoHedge("hedgeLeaves", (x, no) -> x.hedgeLeaves(no, 0)));
        Sentences.says(NO_HEDGE, "which one", () -> Gardens.dueNoHedge("hedgeLeaves", (x, no) -> x.hedgeLeaves(0, no)));
        Sentences.says(NOT_DONE, CallBounds::hedgeCannotLeave);
        Sentences.in("Promise 27");
        Sentences.says("A rose leaves a hedge.", CallBounds::roseLeaves);
        Sentences.says("Returns how many listen to the hedge then.", () -> listenersBehindLeaving(false));
        Sentences.says(NEITHER, "rose", () -> Gardens.dueNoRose("roseLeaves", (x, no) -> x.roseLeaves(no, 0)));
        Sentences.says(NEITHER, "hedge", () -> Gardens.dueNoHedge("roseLeaves", (x, no) -> x.roseLeaves(0, no)));
        Sentences.says(NOT_DONE, CallBounds::roseCannotLeave);
    }

    private static void hedgeLeaves() {
        HedgeNews x = Checks.taught(THREE);
        x.hedgeListens(2, 0);
        x.hedgeListens(0, 2);
        x.hedgeLeaves(2, 0);
        Checks.due("hedgeInRow(2, 0)", x.hedgeInRow(2, 0), -1);
        Checks.due("hedgeInRow(0, 2), the other way round", x.hedgeInRow(0, 2), 0);
        Checks.due("tell(0, 99)", x.tell(0, 99), 0);
    }

    private static void roseLeaves() {
        HedgeNews x = Checks.taught(THREE);
        x.roseListens(0, 2);
        x.roseListens(0, 0);
        x.roseLeaves(0, 2);
        Checks.due("roseInRow(0, 2)", x.roseInRow(0, 2), -1);
        Checks.due("roseInRow(0, 0)", x.roseInRow(0, 0), 0);
        Checks.due("departures()", x.departures(), 0);
        Checks.due("tell(2, 99)", x.tell(2, 99), 0);
    }

    /** From 14 of a full row down to none. */
    private static void listenersBehindLeaving(boolean hedgesLast) {
        HedgeNews x = Checks.taught(Gardens.hedges(8) + Gardens.roses(8));
        for (int i = 0; i < 8; i++) {
            x.roseListens(i, 7);
            if (i < 7) {
                x.hedgeListens(i, 7);
            }
        }
        int left = 15;
        for (int i = 0; i < 7 && !hedgesLast; i++) {
            Checks.due("hedgeLeaves(" + i + ", 7)", x.hedgeLeaves(i, 7), --left);
        }
        for (int i = 0; i < 8; i++) {
            Checks.due("roseLeaves(" + i + ", 7)", x.roseLeaves(i, 7), --left);
        }
        for (int i = 0; i < 7 && hedgesLast; i++) {
            Checks.due("hedgeLeaves(" + i + ", 7)", x.hedgeLeaves(i, 7), --left);
        }
        Checks.due("who is left", left, 0);
    }

    private static void hedgeCannotLeave() {
        HedgeNews x = Checks.taught(THREE);
        Checks.dueThrow("hedgeLeaves(0, 1), an empty row", x, Checks.ISE, () -> x.hedgeLeaves(0, 1));
        Checks.dueThrow("hedgeLeaves(1, 1), itself", x, Checks.ISE, () -> x.hedgeLeaves(1, 1));
        x.hedgeListens(1, 0);
        x.roseListens(0, 1);
        Checks.dueThrow("hedgeLeaves(0, 1), the other way round", x, Checks.ISE, () -> x.hedgeLeaves(0, 1));
        x.hedgeLeaves(1, 0);
        Checks.dueThrow("hedgeLeaves(1, 0) again", x, Checks.ISE, () -> x.hedgeLeaves(1, 0));
        Checks.due("listenersOf(1)", x.listenersOf(1), 1);
    }

    private static void roseCannotLeave() {
        HedgeNews x = Checks.taught(THREE);
        Checks.dueThrow("roseLeaves(1, 0), an empty row", x, Checks.ISE, () -> x.roseLeaves(1, 0));
        x.hedgeListens(1, 0);
        x.roseListens(0, 0);
        Checks.dueThrow("roseLeaves(1, 0), where others are", x, Checks.ISE, () -> x.roseLeaves(1, 0));
        x.roseListens(1, 0);
        x.tell(0, 9);
        x.tell(0, 9);
        Checks.dueThrow("roseLeaves(1, 0), which it left by itself", x, Checks.ISE, () -> x.roseLeaves(1, 0));
        Checks.due("listenersOf(0)", x.listenersOf(0), 2);
    }

    private static void tell() {
        Sentences.in("Promise 28");
        Sentences.says("Tells a news to a hedge.", CallBounds::tellsToAHedge);
        Sentences.says("Returns how many whispers there are of it.", "none", CallBounds::noWhispers);
        Sentences.says("Returns how many whispers there are of it.", "the most there can be", CallBounds::mostWhispers);
        Sentences.says(NO_HEDGE, () -> Gardens.dueNoHedge("tell", (x, no) -> x.tell(no, 50)));
        Sentences.says("Throws IllegalArgumentException if loudness is not 1 to 99",
            () -> Gardens.dueOneTo("tell", 99, (x, no) -> x.tell(0, no)));
    }

    private static void tellsToAHedge() {
        HedgeNews x = Checks.taught(Gardens.hedges(8));
        for (int i = 0; i < 8; i++) {
            x.tell(i, i + 1);
            Checks.due("heardBy(" + i + ")", x.heardBy(i), 1);
            Checks.due("latestOf(" + i + ")", x.latestOf(i), i + 1);
        }
        Checks.due("ordersCarriedOut()", x.ordersCarriedOut(), 0);
        Checks.due("day()", x.day(), 0);
    }

    private static void noWhispers() {
        HedgeNews x = Checks.taught("hedge a hush 9;hedge b hush 1;");
        Checks.due("tell(0, 99) to nobody", x.tell(0, 99), 0);
        x.hedgeListens(1, 0);
        Checks.due("tell(0, 9), too quiet", x.tell(0, 9), 0);
        Checks.due("tell(0, 10)", x.tell(0, 10), 1);
        Checks.due("tell(0, 10), without those of before", x.tell(0, 10), 1);
    }

    /** Each of eight hedges whispers to fifteen. */
    private static void mostWhispers() {
        HedgeNews x = Checks.taught(Gardens.hedges(8) + Gardens.roses(8));
        for (int i = 0; i < 64; i++) {
            x.roseListens(i / 8, i % 8);
            if (i / 8 != i % 8) {
                x.hedgeListens(i / 8, i % 8);
            }
        }
        Checks.due("tell(0, 99)", x.tell(0, 99), 120);
        Checks.due("whispers()", x.whispers(), 120);
        Checks.due("cycles()", x.cycles(), 49);
        Checks.due("departures()", x.departures(), 0);
        for (int i = 0; i < 8; i++) {
            Checks.due("countOf(" + i + ")", x.countOf(i), 8);
            Checks.due("petalsOf(" + i + ")", x.petalsOf(i), 98 + 7 * 97);
        }
        Checks.due("tell(7, 99), of which each rose has enough at once", x.tell(7, 99), 120);
        Checks.due("departures()", x.departures(), 8);
        Checks.due("listenersOf(7)", x.listenersOf(7), 7);
        Checks.due("countOf(0), of the other seven whispers", x.countOf(0), 7);
    }

    private static void passDays() {
        Sentences.in("Promise 29");
        Sentences.says("Lets days go by.", CallBounds::daysGoBy);
        Sentences.says("Returns how many whispers there are in them.", CallBounds::whispersInTheDays);
        Sentences.says("Throws IllegalArgumentException if days is not 1 to 30",
            () -> Gardens.dueOneTo("passDays", 30, (x, no) -> x.passDays(no)));
    }

    private static void daysGoBy() {
        HedgeNews x = Checks.taught(THREE + "tell a with 1;");
        x.passDays(1);
        Checks.due("day()", x.day(), 1);
        x.passDays(30);
        Checks.due("day()", x.day(), 31);
        Checks.due("heardBy(0)", x.heardBy(0), 31);
        HedgeNews y = new HedgeNews();
        y.passDays(30);
        Checks.due("day() of a new one", y.day(), 30);
    }

    private static void whispersInTheDays() {
        HedgeNews x = Checks.taught(THREE + "tell a with 9 when day < 32;tell a with 9 when day > 30 and day < 32;");
        x.hedgeListens(1, 0);
        x.hedgeListens(2, 1);
        Checks.due("tell(0, 9)", x.tell(0, 9), 2);
        Checks.due("passDays(1), without the news by hand", x.passDays(1), 2);
        Checks.due("passDays(30)", x.passDays(30), 60);
        Checks.due("passDays(1) with two news", x.passDays(1), 4);
        Checks.due("passDays(30) with none", x.passDays(30), 0);
    }
}
