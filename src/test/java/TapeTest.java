/** Promises 1 to 3: a new object, feed and trim. */
public final class TapeTest {
    public static void main(String[] args) {
        newObject();
        feeding();
        trimming();
        Checks.finish("TapeTest");
    }

    private static void newObject() {
        HedgeNews x = new HedgeNews();
        Checks.due("hedges() when new", x.hedges(), 0);
        Checks.due("roses() when new", x.roses(), 0);
        Checks.due("day() when new", x.day(), 0);
        Checks.due("ordersCarriedOut() when new", x.ordersCarriedOut(), 0);
        Checks.due("whispers() when new", x.whispers(), 0);
        Checks.due("cycles() when new", x.cycles(), 0);
        Checks.due("departures() when new", x.departures(), 0);
        Checks.due("errorAt() when new", x.errorAt(), -1);
        Checks.due("fullest() when new", x.fullest(), -1);
        Checks.due("bestToTell(1) when new", x.bestToTell(1), -1);
        Checks.dueMean("meanPetals() when new", x.meanPetals(), 0);
        Checks.due("trim(0) when new", x.trim(0), 0);
        Checks.dueThrow("trim(1) when new", x, Checks.IAE, () -> x.trim(1));
        Checks.due("passDays(30) without orders", x.passDays(30), 0);
        Checks.due("day() then", x.day(), 30);
        Checks.due("ordersCarriedOut() then", x.ordersCarriedOut(), 0);
    }

    private static void feeding() {
        HedgeNews x = new HedgeNews();
        // "hedge ab hush 9;    ", the highest byte of each number first
        Checks.due("feed", x.feed(0x68656467, 0x65206162, 0x20687573, 0x6820393b, 0x20202020), 20);
        Checks.due("teach()", x.teach(), 0);
        Checks.due("hushOf(0)", x.hushOf(0), 9);
        // the highest bit of a byte is no sign: 0xff in the place of the last blank is a byte without a token
        Checks.due("feed", x.feed(0x68656467, 0x65206162, 0x20687573, 0x6820393b, 0x202020ff), 20);
        Checks.due("teach()", x.teach(), 1);
        Checks.due("errorAt()", x.errorAt(), 19);
        for (int i = 1; i <= 100; i++) {
            Checks.due("feed, time " + i, x.feed(-1, 0, 1, Integer.MIN_VALUE, Integer.MAX_VALUE), 20 * i);
        }
        Checks.dueThrow("feed behind 2000 bytes", x, Checks.ISE, () -> x.feed(0, 0, 0, 0, 0));
        Checks.due("trim(2000)", x.trim(2000), 2000);
        Checks.due("trim(1981)", x.trim(1981), 1981);
        Checks.dueThrow("feed behind 1981 bytes", x, Checks.ISE, () -> x.feed(0, 0, 0, 0, 0));
        Checks.dueThrow("trim(1982) behind a feed that threw", x, Checks.IAE, () -> x.trim(1982));
        Checks.due("trim(1980)", x.trim(1980), 1980);
        Checks.due("feed behind 1980 bytes", x.feed(0, 0, 0, 0, 0), 2000);
        Checks.due("teach()", x.teach(), 1);
        Checks.due("feed behind a teach with an error", x.feed(0, 0, 0, 0, 0), 20);
    }

    private static void trimming() {
        HedgeNews x = new HedgeNews();
        Checks.write(x, 0, "hedge a hush 1;hedge b hush 2;");
        Checks.dueThrow("trim(-1)", x, Checks.IAE, () -> x.trim(-1));
        Checks.dueThrow("trim(31) of 30", x, Checks.IAE, () -> x.trim(31));
        Checks.dueThrow("trim(least)", x, Checks.IAE, () -> x.trim(Integer.MIN_VALUE));
        Checks.dueThrow("trim(most)", x, Checks.IAE, () -> x.trim(Integer.MAX_VALUE));
        Checks.due("trim(30)", x.trim(30), 30);
        Checks.due("trim(15)", x.trim(15), 15);
        Checks.dueThrow("trim(16) behind it", x, Checks.IAE, () -> x.trim(16));
        Checks.write(x, 15, "hedge c hush 3;");
        Checks.due("teach()", x.teach(), 0);
        Checks.due("hedges()", x.hedges(), 2);
        Checks.due("hushOf(1)", x.hushOf(1), 3);
        Checks.dueThrow("trim(1) behind teach", x, Checks.IAE, () -> x.trim(1));
        Checks.due("trim(0) behind teach", x.trim(0), 0);
    }
}
