/** Promise 37: the digest, reckoned here from the other answers, and with numbers by hand. */
public final class DigestTest {
    private static long sum;

    public static void main(String[] args) {
        nothing();
        smallOnes();
        twentyLoud();
        fromTheOtherAnswers();
        Checks.finish("DigestTest");
    }

    private static void add(long number) {
        sum = sum * 31 + number;
    }

    private static long of(long... numbers) {
        sum = 1063;
        for (long number : numbers) {
            add(number);
        }
        return sum;
    }

    private static void nothing() {
        HedgeNews x = new HedgeNews();
        Checks.due("digest() when new", x.digest(), of(0, 0, 0, 0, 0, 0, 0, -1, -1));
        x.passDays(3);
        Checks.due("digest() behind 3 days", x.digest(), of(0, 0, 3, 0, 0, 0, 0, -1, -1));
    }

    private static void smallOnes() {
        HedgeNews x = Checks.taught("hedge a hush 4;hedge b hush 1;rose r patience 2;rose s patience 9;"
            + "tell b with 8 when day = 1;listen s to b when day = 1;");
        Checks.due("digest()", x.digest(), of(2, 2, 0, 0, 0, 0, 0, 0, 0,
            0, 0, 0, -1, -1, -1, -1,
            0, 0, 0, -1, -1, -1, -1,
            0, 0, 0, 0, 0, 0));
        x.roseListens(1, 0);
        x.hedgeListens(1, 0);
        x.roseListens(0, 1);
        x.hedgeListens(0, 1);
        x.tell(0, 30);
        // a 30, s 26, b 26, r 25, a counts a cycle; then a petal less
        x.passDays(1);
        Checks.due("digest()", x.digest(), of(2, 2, 1, 0, 4, 1, 0, 1, 1,
            1, 30, 2, -1, 1, -1, 0,
            1, 26, 2, 1, -1, 0, -1,
            24, 1, 1, 25, 1, 1));
        // b 8, r 7 (it leaves), a 7, s 3, b counts a cycle; then s comes to b, and counts anew
        x.passDays(1);
        Checks.due("digest()", x.digest(), of(2, 2, 2, 2, 8, 2, 1, 0, 1,
            2, 7, 2, -1, 1, -1, 0,
            2, 8, 2, 0, -1, -1, 1,
            30, 0, 0, 27, 0, 2));
    }

    /** Gardens in which the best one to tell is another with 19 than with 20, and with 21 than with 20. */
    private static void twentyLoud() {
        HedgeNews x = Checks.taught("hedge b hush 1;hedge a hush 9;hedge c hush 1;rose r patience 2;rose s patience 9;");
        x.roseListens(0, 0);
        x.hedgeListens(0, 1);
        x.hedgeListens(2, 1);
        x.roseListens(1, 2);
        for (int loudness = 18; loudness <= 21; loudness++) {
            Checks.due("bestToTell(" + loudness + ")", x.bestToTell(loudness), loudness < 20 ? 0 : 1);
        }
        Checks.due("digest()", x.digest(), reckoned(x));
        HedgeNews y = Checks.taught("hedge b hush 1;hedge a hush 9;hedge c hush 2;rose r patience 2;rose s patience 9;");
        y.roseListens(0, 0);
        y.hedgeListens(0, 1);
        y.hedgeListens(2, 1);
        y.roseListens(1, 2);
        Checks.due("bestToTell(20)", y.bestToTell(20), 0);
        Checks.due("bestToTell(21)", y.bestToTell(21), 1);
        Checks.due("digest()", y.digest(), reckoned(y));
    }

    private static long reckoned(HedgeNews x) {
        of(x.hedges(), x.roses(), x.day(), x.ordersCarriedOut(), x.whispers(), x.cycles(), x.departures(),
            x.fullest(), x.bestToTell(20));
        for (int h = 0; h < x.hedges(); h++) {
            add(x.heardBy(h));
            add(x.latestOf(h));
            add(x.listenersOf(h));
            for (int other = 0; other < x.hedges(); other++) {
                add(x.hedgeInRow(other, h));
            }
            for (int rose = 0; rose < x.roses(); rose++) {
                add(x.roseInRow(rose, h));
            }
        }
        for (int rose = 0; rose < x.roses(); rose++) {
            add(x.petalsOf(rose));
            add(x.countOf(rose));
            add(x.hedgesOf(rose));
        }
        return sum;
    }

    private static void fromTheOtherAnswers() {
        HedgeNews x = Checks.taught("hedge a hush 4;hedge b hush 1;hedge c hush 2;rose r patience 2;rose s patience 3;"
            + "listen b to a;listen c to b;listen a to c;listen r to c;listen s to b when day / 2 * 2 = day;"
            + "listen r to a when hears s of b;tell a with 20 + day;tell b with petals of r when cycles > 9;");
        // each reckoning makes some 70 calls, and an object is good for 512
        for (int i = 1; i <= 6; i++) {
            Checks.due("digest() on day " + x.day(), x.digest(), reckoned(x));
            x.passDays(i);
        }
    }
}
