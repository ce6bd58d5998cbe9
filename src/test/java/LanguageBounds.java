/** The bounds that the sections "What it is", "Terms" and "1. The language" name, sentence by sentence. */
final class LanguageBounds {
    private static final String AHEAD = "hedge a hush 1;hedge b hush 2;rose r patience 3;";
    private static final String TELL = AHEAD + "tell a with ";
    private static final String WHEN = TELL + "1 when ";
    private static final String KEYWORDS = "hedge hush rose patience listen leave to tell with when day cycles whispers "
        + "heard latest petals of hears not and or min max";
    private static final int LEAST = Integer.MIN_VALUE;
    private static final int MOST = Integer.MAX_VALUE;

    private LanguageBounds() {
    }

    static void look() {
        Sentences.in("What it is");
        Sentences.namesNoBound("A garden of gossiping hedges.");
        Sentences.says("An object is used for at most 512 calls after it has been made; what later calls answer is free.",
            LanguageBounds::the512thCall);
        terms();
        Sentences.in("1. The language");
        tape();
        tokens();
        grammar();
        depth();
        errorOne();
        otherErrors();
    }

    /** As many whispers, cycles, petals and leavings as 512 calls can hold, with the answers at the last of them. */
    private static void the512thCall() {
        StringBuilder text = new StringBuilder(Gardens.hedges(8) + "rose r patience 9;listen r to h0;");
        for (int i = 0; i < 15; i++) {
            text.append("tell h0 with 99;");
        }
        HedgeNews x = new HedgeNews();
        Checks.write(x, 0, text.toString());
        int calls = (text.length() + 19) / 20 + 1;
        Checks.due("teach()", x.teach(), 0);
        calls++;
        for (int h = 0; h < 8; h++) {
            for (int other = 0; other < 8; other++) {
                if (other != h) {
                    x.hedgeListens(h, other);
                    calls++;
                }
            }
        }
        int days = 0;
        while (calls < 504) {
            // each day: 15 news of 8 * 7 whispers, and nine that the rose hears before it leaves
            Checks.due("passDays(30), call " + calls, x.passDays(30), 30 * (15 * 56 + 9));
            days += 30;
            calls++;
        }
        Checks.due("day(), call 505", x.day(), days);
        Checks.due("ordersCarriedOut(), call 506", x.ordersCarriedOut(), 16 * days);
        Checks.due("whispers(), call 507", x.whispers(), (15 * 56 + 9) * days);
        Checks.due("cycles(), call 508", x.cycles(), 15 * 49 * days);
        Checks.due("departures(), call 509", x.departures(), days);
        Checks.due("petalsOf(0), call 510", x.petalsOf(0), (9 * 98 - 1) * days);
        Checks.due("heardBy(7), call 511", x.heardBy(7), 15 * days);
        Checks.dueMean("meanPetals(), call 512", x.meanPetals(), (9 * 98 - 1) * days);
    }

    private static void terms() {
        Sentences.in("Terms");
        Sentences.namesNoBound("Hedges and roses listen to hedges; a news that is told to a hedge is whispered on to all who "
            + "listen there, one behind the other, quieter each time;");
        Sentences.says("it stops where it was heard already", LanguageBounds::stopsWhereItWasHeard);
        Sentences.says("roses have enough after some whispers, and leave", LanguageBounds::rosesHaveEnough);
        Sentences.namesNoBound("a plan listens, leaves and tells from day to day; and one can ask who listens where and in which "
            + "place, how far a news comes and how loud it is there, whether it comes round, which rose will leave and when, and "
            + "to which hedge one had best tell it.");
        Sentences.namesNoBound("All numbers are whole;");
        String wraps = "sums, differences and products of the language wrap around in 32 bits";
        Sentences.says(wraps, "sums", LanguageBounds::sumsWrap);
        Sentences.says(wraps, "differences", LanguageBounds::differencesWrap);
        Sentences.says(wraps, "a - in front", LanguageBounds::turnedWraps);
        Sentences.says(wraps, "products", LanguageBounds::productsWrap);
        Sentences.says("/ is cut towards 0", LanguageBounds::cutTowardsZero);
        Sentences.says("gives 0 with 0 on the right side", LanguageBounds::zeroOnTheRight);
        Sentences.says("and -2147483648 / -1 gives -2147483648", LanguageBounds::leastByMinusOne);
        Sentences.says("Positions of the tape are counted from 0, in bytes.", LanguageBounds::positions);
    }

    private static void stopsWhereItWasHeard() {
        HedgeNews x = Checks.taught(AHEAD);
        x.hedgeListens(0, 1);
        x.hedgeListens(1, 0);
        Checks.due("tell(0, 99)", x.tell(0, 99), 2);
        Checks.due("heardBy(0)", x.heardBy(0), 1);
        Checks.due("heardBy(1)", x.heardBy(1), 1);
    }

    private static void rosesHaveEnough() {
        HedgeNews x = Checks.taught(AHEAD);
        x.roseListens(0, 0);
        Checks.due("tell(0, 9), first", x.tell(0, 9), 1);
        Checks.due("tell(0, 9), second", x.tell(0, 9), 1);
        Checks.due("listenersOf(0) with some patience", x.listenersOf(0), 1);
        Checks.due("tell(0, 9), third", x.tell(0, 9), 1);
        Checks.due("listenersOf(0) with enough", x.listenersOf(0), 0);
        Checks.due("tell(0, 9), fourth", x.tell(0, 9), 0);
    }

    private static void sumsWrap() {
        Gardens.dueValue(Gardens.value(MOST) + " + 0", MOST);
        Gardens.dueValue(Gardens.value(MOST) + " + 1", LEAST);
        Gardens.dueValue("1 + " + Gardens.value(MOST), LEAST);
        Gardens.dueValue(Gardens.value(MOST) + " + " + Gardens.value(MOST), -2);
        Gardens.dueValue(Gardens.value(LEAST) + " + -1", MOST);
        Gardens.dueValue(Gardens.value(LEAST) + " + " + Gardens.value(LEAST), 0);
        Gardens.dueTest(Gardens.value(MOST) + " + 1 < 0", true);
    }

    private static void differencesWrap() {
        Gardens.dueValue(Gardens.value(LEAST) + " - 0", LEAST);
        Gardens.dueValue(Gardens.value(LEAST) + " - 1", MOST);
        Gardens.dueValue(Gardens.value(MOST) + " - -1", LEAST);
        Gardens.dueValue("0 - " + Gardens.value(LEAST), LEAST);
        Gardens.dueValue(Gardens.value(LEAST) + " - " + Gardens.value(MOST), 1);
        Gardens.dueValue(Gardens.value(MOST) + " - " + Gardens.value(LEAST), -1);
        Gardens.dueTest(Gardens.value(LEAST) + " - 1 > 0", true);
    }

    private static void turnedWraps() {
        Gardens.dueValue("-" + Gardens.value(MOST), -MOST);
        Gardens.dueValue("-" + Gardens.value(LEAST), LEAST);
        Gardens.dueTest("-" + Gardens.value(LEAST) + " < 0", true);
    }

    private static void productsWrap() {
        Gardens.dueValue("65536 * 32767", 65536 * 32767);
        Gardens.dueValue("65536 * 32768", LEAST);
        Gardens.dueValue("65536 * 65536", 0);
        Gardens.dueValue("46341 * 46341", -2147479015);
        Gardens.dueValue("999999 * 999999", -729379967);
        Gardens.dueValue(Gardens.value(MOST) + " * " + Gardens.value(MOST), 1);
        Gardens.dueValue(Gardens.value(LEAST) + " * -1", LEAST);
        Gardens.dueValue(Gardens.value(LEAST) + " * 2", 0);
        Gardens.dueTest("46341 * 46341 < 0", true);
    }

    private static void cutTowardsZero() {
        Gardens.dueValue("7 / 2", 3);
        Gardens.dueValue("-7 / 2", -3);
        Gardens.dueValue("7 / -2", -3);
        Gardens.dueValue("-7 / -2", 3);
        Gardens.dueValue("1 / 2", 0);
        Gardens.dueValue("-1 / 2", 0);
        Gardens.dueValue("-999999 / (999999 + 1)", 0);
        Gardens.dueValue(Gardens.value(LEAST) + " / " + Gardens.value(MOST), -1);
        Gardens.dueValue(Gardens.value(MOST) + " / " + Gardens.value(LEAST), 0);
        Gardens.dueValue(Gardens.value(LEAST) + " / 3", LEAST / 3);
    }

    private static void zeroOnTheRight() {
        Gardens.dueValue("7 / 0", 0);
        Gardens.dueValue("-7 / 0", 0);
        Gardens.dueValue("0 / 0", 0);
        Gardens.dueValue("7 / -0", 0);
        Gardens.dueValue("7 / (1 - 1)", 0);
        Gardens.dueValue("7 / (1 / 2)", 0);
        Gardens.dueValue("5 + 7 / day", 5);
        Gardens.dueValue(Gardens.value(LEAST) + " / 0", 0);
        Gardens.dueValue(Gardens.value(MOST) + " / 0", 0);
        Gardens.dueValue("0 / 7", 0);
    }

    private static void leastByMinusOne() {
        Gardens.dueValue(Gardens.value(LEAST) + " / -1", LEAST);
        Gardens.dueValue(Gardens.value(LEAST) + " / (0 - 1)", LEAST);
        Gardens.dueTest(Gardens.value(LEAST) + " / -1 < 0", true);
        Gardens.dueValue(Gardens.value(LEAST) + " / 1", LEAST);
        Gardens.dueValue(Gardens.value(MOST) + " / -1", -MOST);
        Gardens.dueValue("(" + Gardens.value(LEAST) + " + 1) / -1", MOST);
    }

    private static void positions() {
        Checks.dueError("!", 1, 0);
        Checks.dueError(";", 1, 0);
        Checks.dueError("", 0, -1);
        Checks.dueError(" !", 1, 1);
        Checks.dueError("\n\n!", 1, 2);
        Checks.dueError(AHEAD + "\n \n?", 1, AHEAD.length() + 3);
        Checks.dueError(" ".repeat(1999) + "!", 1, 1999);
        Checks.dueError("tell a with 1;", 3, 5);
    }

    private static void tape() {
        Sentences.says("The tape is a row of at most 2000 bytes", LanguageBounds::at2000Bytes);
        Sentences.says("at first empty", LanguageBounds::atFirstEmpty);
        Sentences.namesNoBound("which feed and trim fill;");
        Sentences.says("teach reads it as a garden, and it is empty behind it.", LanguageBounds::emptyBehindTeach);
    }

    private static void at2000Bytes() {
        HedgeNews x = new HedgeNews();
        String line = "hedge a hush 7;";
        Checks.write(x, 0, " ".repeat(2000 - line.length()) + line);
        Checks.dueThrow("feed behind 2000 bytes", x, Checks.ISE, () -> x.feed(0, 0, 0, 0, 0));
        Checks.due("teach() of 2000 bytes", x.teach(), 0);
        Checks.due("hedges()", x.hedges(), 1);
        Checks.due("hushOf(0)", x.hushOf(0), 7);
        Checks.write(x, 0, line + "\n".repeat(2000 - line.length()));
        Checks.due("trim(2000)", x.trim(2000), 2000);
        Checks.due("teach() of 2000 bytes again", x.teach(), 0);
        Checks.dueError(" ".repeat(1992) + "hedge a ", 1, 2000);
    }

    private static void atFirstEmpty() {
        HedgeNews x = new HedgeNews();
        Checks.dueThrow("trim(1)", x, Checks.IAE, () -> x.trim(1));
        Checks.due("trim(0)", x.trim(0), 0);
        Checks.due("teach() of nothing", x.teach(), 0);
        Checks.due("hedges()", x.hedges(), 0);
        Checks.due("feed", new HedgeNews().feed(0, 0, 0, 0, 0), 20);
    }

    private static void emptyBehindTeach() {
        HedgeNews x = Checks.taught(AHEAD);
        Checks.dueThrow("trim(1)", x, Checks.IAE, () -> x.trim(1));
        Checks.due("trim(0)", x.trim(0), 0);
        Checks.due("hedges()", x.hedges(), 2);
        Checks.due("teach() of nothing", x.teach(), 0);
        Checks.due("hedges()", x.hedges(), 0);
        Checks.due("feed", x.feed(0x20202020, 0x20202020, 0x20202020, 0x20202020, 0x20202020), 20);
        Checks.due("teach() of blanks", x.teach(), 0);
    }

    private static void tokens() {
        Sentences.namesNoBound("It is a row of tokens.");
        String blanks = "Blanks (32) and line ends (10) can stand between tokens, at the beginning and at the end";
        Sentences.says(blanks, "many, or none", LanguageBounds::blanksOrNone);
        Sentences.says(blanks, "no other byte", LanguageBounds::noOtherBlanks);
        Sentences.says("and have to stand between two tokens that would otherwise be read as one.", LanguageBounds::blanksHaveToStand);
        Sentences.says("The longest possible token is always read.", LanguageBounds::longestToken);
        String word = "A word: a letter a to z, followed by letters a to z and digits, at most 10 bytes.";
        Sentences.says(word, "a to z, digits", LanguageBounds::lettersAndDigits);
        Sentences.says(word, "at most 10 bytes", LanguageBounds::wordsOfTenBytes);
        Sentences.says("A number: 1 to 6 digits.", LanguageBounds::oneToSixDigits);
        String symbols = "Symbols: ( ) [ ] ; , + - * / < > = <= >=";
        Sentences.says(symbols, "these", LanguageBounds::eachSymbol);
        Sentences.says(symbols, "no other", LanguageBounds::noOtherSymbol);
        Sentences.says("The keywords are: " + KEYWORDS + ".", LanguageBounds::keywordsAreNoNames);
        Sentences.says("All other words are names.", LanguageBounds::otherWordsAreNames);
    }

    private static void blanksOrNone() {
        Checks.dueError("hedge a hush 1;rose r patience 2;tell a with(1)when[1<=1];", 0, -1);
        Checks.dueError(" \n \n hedge \n a\nhush\n\n1 \n ; \nrose r patience\n2\n;tell a with ( 1 ) when [ 1 <= 1 ] ;\n \n", 0, -1);
        Checks.dueError("hedge" + " ".repeat(1980) + "a hush 1;", 0, -1);
        Checks.dueError("hedge" + "\n".repeat(1980) + "a hush 1;", 0, -1);
        Checks.dueError(" ", 0, -1);
        Checks.dueError("\n", 0, -1);
        Checks.dueError(" ".repeat(2000), 0, -1);
    }

    private static void noOtherBlanks() {
        for (int sign = 0; sign < 256; sign++) {
            boolean isBlank = sign == 32 || sign == 10;
            boolean isSign = sign > 32 && sign < 127;
            if (!isSign) {
                String text = (char) sign + "hedge a hush 1;";
                Checks.dueError(text, isBlank ? 0 : 1, isBlank ? -1 : 0);
                String atEnd = "hedge a hush 1;" + (char) sign;
                Checks.dueError(atEnd, isBlank ? 0 : 1, isBlank ? -1 : 15);
                String between = "hedge a" + (char) sign + "hush 1;";
                Checks.dueError(between, isBlank ? 0 : 1, isBlank ? -1 : 7);
            }
        }
    }

    private static void blanksHaveToStand() {
        Checks.dueErrorAtMark("^hedgea hush 1;", 1);
        Checks.dueErrorAtMark("hedge ahush ^1;", 1);
        Checks.dueErrorAtMark("hedge a ^hush1;", 1);
        Checks.dueErrorAtMark(AHEAD + "listen a ^tob;", 1);
        Checks.dueErrorAtMark(AHEAD + "tell a with 1 when not ^nothears a of b;", 1);
        Checks.dueErrorAtMark(WHEN + "1 < ^= 1;", 1);
        Checks.dueErrorAtMark("hedge a hush ^12;", 5);
        Checks.dueErrorAtMark("hedge a hush 1 ^2;", 1);
        Checks.dueError(AHEAD + "tell a with 1when 2<3and[4>5]or not hears a of b;", 0, -1);
    }

    private static void longestToken() {
        Gardens.dueTest("1<=1", true);
        Gardens.dueTest("1>=1", true);
        Gardens.dueTest("1<1", false);
        Checks.dueErrorAtMark(WHEN + "1<=^=1;", 1);
        Checks.dueErrorAtMark(TELL + "^day1;", 1);
        Checks.dueErrorAtMark(TELL + "^min1(1,2);", 1);
        Checks.dueErrorAtMark(WHEN + "^nothears a of b;", 1);
        Gardens.dueValue("123456", 123 * 1000 + 456);
        Checks.dueError("hedge to1 hush 1;hedge tot hush 1;hedge hedges hush 1;hedge nothears hush 1;", 0, -1);
        // not the ten bytes abcdefghij and then with; not 000001 and then 1
        Checks.dueErrorAtMark("hedge abcdefghij hush 1;tell ^abcdefghijwith 1;", 1);
        Checks.dueErrorAtMark("hedge a hush ^0000011;", 1);
    }

    private static void lettersAndDigits() {
        Checks.dueError("hedge a hush 1;hedge z hush 1;hedge a0 hush 1;hedge z9 hush 1;hedge az hush 1;hedge za90az hush 1;", 0, -1);
        Checks.dueErrorAtMark("hedge ^0a hush 1;", 1);
        Checks.dueErrorAtMark("hedge ^9 hush 1;", 1);
        for (char sign : "`{/:@[AZ_$".toCharArray()) {
            Checks.dueErrorAtMark("hedge ^" + sign + " hush 1;", 1);
            Checks.dueErrorAtMark("hedge a^" + sign + " hush 1;", 1);
            Checks.dueErrorAtMark("hedge a^" + sign + "b hush 1;", 1);
        }
    }

    private static void wordsOfTenBytes() {
        Checks.dueError("hedge abcdefghij hush 1;hedge a234567890 hush 1;hedge a hush 1;", 0, -1);
        HedgeNews x = Checks.taught("hedge abcdefghij hush 1;hedge abcdefghik hush 1;listen abcdefghij to abcdefghik;");
        x.passDays(1);
        Checks.due("hedgeInRow(0, 1)", x.hedgeInRow(0, 1), 0);
        Checks.dueErrorAtMark("hedge ^abcdefghijk hush 1;", 1);
        Checks.dueErrorAtMark("hedge ^a2345678901 hush 1;", 1);
        Checks.dueErrorAtMark("hedge ^" + "a".repeat(1900) + " hush 1;", 1);
    }

    private static void oneToSixDigits() {
        Checks.dueError(TELL + "0;", 0, -1);
        Checks.dueError(TELL + "999999;", 0, -1);
        Gardens.dueValue("999999", 1000 * 1000 - 1);
        Gardens.dueValue("000000", 0);
        Gardens.dueValue("000009", 9);
        Checks.dueErrorAtMark(TELL + "^1000000;", 1);
        Checks.dueErrorAtMark(TELL + "^0000000;", 1);
        Checks.dueErrorAtMark(TELL + "1 + ^" + "9".repeat(1900) + ";", 1);
        Checks.dueErrorAtMark("hedge a hush ^0000001;", 1);
        Checks.dueErrorAtMark("rose r patience ^0000001;", 1);
    }

    private static void eachSymbol() {
        Gardens.dueTest("[(1) < 2]", true);
        Gardens.dueTest("2 > 1", true);
        Gardens.dueTest("2 = 2", true);
        Gardens.dueTest("1 <= 1", true);
        Gardens.dueTest("1 >= 1", true);
        Gardens.dueValue("1 + 2", 3);
        Gardens.dueValue("1 - 2", -1);
        Gardens.dueValue("2 * 3", 6);
        Gardens.dueValue("6 / 3", 2);
        Gardens.dueValue("min(1, 2)", 1);
        Checks.dueError("hedge a hush 1;", 0, -1);
    }

    private static void noOtherSymbol() {
        for (char sign : "!\"#$%&'.:?@\\^_`{|}~ABCXYZ".toCharArray()) {
            Checks.dueError(AHEAD + sign, 1, AHEAD.length());
            Checks.dueError(TELL + sign, 1, TELL.length());
            Checks.dueError(TELL + "1" + sign + "1;", 1, TELL.length() + 1);
        }
        Checks.dueErrorAtMark(WHEN + "1 =^< 1;", 1);
        Checks.dueErrorAtMark(WHEN + "1 <^> 1;", 1);
    }

    private static void keywordsAreNoNames() {
        for (String keyword : KEYWORDS.split(" ")) {
            Checks.dueErrorAtMark("hedge ^" + keyword + " hush 1;", 1);
            Checks.dueErrorAtMark("rose ^" + keyword + " patience 1;", 1);
            Checks.dueErrorAtMark(AHEAD + "tell ^" + keyword + " with 1;", 1);
        }
    }

    private static void otherWordsAreNames() {
        for (String keyword : KEYWORDS.split(" ")) {
            String longer = keyword + "x";
            String withDigit = keyword + "0";
            Checks.dueError("hedge " + longer + " hush 1;rose " + withDigit + " patience 1;tell " + longer + " with petals of "
                + withDigit + ";", 0, -1);
            String shorter = keyword.substring(0, keyword.length() - 1);
            if (!(" " + KEYWORDS + " ").contains(" " + shorter + " ")) {
                Checks.dueError("hedge " + shorter + " hush 1;tell " + shorter + " with 1;", 0, -1);
            }
        }
    }

    private static void grammar() {
        Sentences.namesNoBound("Grammar.");
        Sentences.says("[ x ] outside of quotation marks means x or nothing", LanguageBounds::orNothing);
        String times = "{ x } x any number of times, also none";
        Sentences.says(times, "{ line \";\" }", LanguageBounds::anyNumberOfLines);
        Sentences.says(times, "{ \"or\" both }", () -> anyNumberOfTests("or", true));
        Sentences.says(times, "{ \"and\" single }", () -> anyNumberOfTests("and", false));
        Sentences.says(times, "{ ( \"+\" | \"-\" ) product }", () -> anyNumberOfValues("+", "-", 96, -82));
        Sentences.says(times, "{ ( \"*\" | \"/\" ) value }", () -> anyNumberOfValues("*", "/", 7, 7));
        // what may stand where names no bound; TeachTest.grammar looks at it
        Sentences.namesNoBound("and | separates alternatives; keywords and symbols of the language are in quotation marks.");
        Sentences.namesNoBound("garden = { line \";\" }");
        Sentences.namesNoBound("line = \"hedge\" name \"hush\" number | \"rose\" name \"patience\" number | order [ \"when\" test ]");
        Sentences.namesNoBound("order = ( \"listen\" | \"leave\" ) name \"to\" name | \"tell\" name \"with\" sum");
        Sentences.namesNoBound("test = both { \"or\" both } both = single { \"and\" single } single = \"not\" single | "
            + "\"[\" test \"]\" | \"hears\" name \"of\" name | sum ( \"<\" | \">\" | \"=\" | \"<=\" | \">=\" ) sum");
        Sentences.namesNoBound("sum = product { ( \"+\" | \"-\" ) product } product = value { ( \"*\" | \"/\" ) value } "
            + "value = number | \"day\" | \"cycles\" | \"whispers\" | ( \"heard\" | \"latest\" | \"petals\" ) \"of\" name | "
            + "\"-\" value | \"(\" sum \")\" | ( \"min\" | \"max\" ) \"(\" sum \",\" sum \")\"");
    }

    private static void orNothing() {
        for (String order : new String[] {"listen a to b", "leave a to b", "tell a with 1"}) {
            Checks.dueError(AHEAD + order + ";", 0, -1);
            Checks.dueError(AHEAD + order + " when 1=1;", 0, -1);
            Checks.dueErrorAtMark(AHEAD + order + " when ^;", 1);
            Checks.dueErrorAtMark(AHEAD + order + " when 1=1 ^when 1=1;", 1);
        }
    }

    private static void anyNumberOfLines() {
        Checks.dueError("", 0, -1);
        Checks.dueError("hedge a hush 1;", 0, -1);
        Checks.dueError(Gardens.hedges(8) + Gardens.roses(8) + "tell h0 with 1;".repeat(16), 0, -1);
        Checks.dueErrorAtMark("^;", 1);
        Checks.dueErrorAtMark("hedge a hush 1^", 1);
        Checks.dueErrorAtMark("hedge a hush 1;^;", 1);
    }

    private static void anyNumberOfTests(String between, boolean ofDifferent) {
        Gardens.dueTest("1 = 1", true);
        Gardens.dueTest("1 = 1 " + between + " 1 = 1", true);
        Gardens.dueTest("1 = 2 " + between + " 1 = 2", false);
        Gardens.dueTest("1 = 1 " + between + " 1 = 2", ofDifferent);
        Gardens.dueTest("1 = 2 " + between + " 1 = 1", ofDifferent);
        Gardens.dueTest("1=1" + (between + " 1=2").repeat(90), ofDifferent);
        Gardens.dueTest("1=2" + (between + " 1=1").repeat(90), ofDifferent);
        Gardens.dueTest("1=2" + (between + " 1=2").repeat(90), false);
        Gardens.dueTest("1=1" + (between + " 1=1").repeat(90), true);
        Checks.dueErrorAtMark(WHEN + "1 = 1 " + between + " ^;", 1);
        Checks.dueErrorAtMark(WHEN + "^" + between + " 1 = 1;", 1);
    }

    private static void anyNumberOfValues(String more, String less, int muchMore, int muchLess) {
        Gardens.dueValue("7", 7);
        Gardens.dueValue("7" + (more + "1").repeat(90) + less + "1", muchMore);
        Gardens.dueValue("7" + (less + "1").repeat(90) + more + "1", muchLess);
        Checks.dueErrorAtMark(TELL + "1" + more + "^;", 1);
        Checks.dueErrorAtMark(TELL + "1" + less + "^;", 1);
        Checks.dueErrorAtMark(TELL + "1" + less + "^" + more + "1;", 1);
    }

    private static void depth() {
        Sentences.namesNoBound("Depth.");
        Sentences.says("It is 0 at the beginning", LanguageBounds::depthBeginsWithZero);
        Sentences.says("and 1 greater between a ( and its )", "of a sum", LanguageBounds::depthOfParentheses);
        Sentences.says("and 1 greater between a ( and its )", "of min and max", LanguageBounds::depthOfMinAndMax);
        Sentences.says("a [ and its ]", LanguageBounds::depthOfBrackets);
        Sentences.says("behind a - in front (of a value) for what it turns", LanguageBounds::depthOfTurned);
        Sentences.says("and behind a not for what it turns.", LanguageBounds::depthOfNot);
        Sentences.says("It may be at most 8.", LanguageBounds::depthAtMostEight);
    }

    private static String deep(String open, int times, String inner, String close) {
        return open.repeat(times) + inner + close.repeat(times);
    }

    private static void depthBeginsWithZero() {
        String sum = deep("(", 8, "1", ")");
        String test = deep("[", 8, "1=1", "]");
        Checks.dueError(TELL + sum + " when " + test + ";tell a with " + sum + " when " + test + ";", 0, -1);
        Checks.dueError(WHEN + sum + "<" + sum + " and " + test + " or " + sum + "=1;", 0, -1);
    }

    private static void depthOfParentheses() {
        Checks.dueError(TELL + deep("(", 8, "1", ")") + ";", 0, -1);
        Checks.dueErrorAtMark(TELL + "((((((((^(1)))))))));", 1);
        Checks.dueErrorAtMark(TELL + "((((((((^-1))))))));", 1);
        Checks.dueError(TELL + "(((((((1*(1)+(1))*(1)))))));", 0, -1);
        Checks.dueError(TELL + deep("(", 8, "1", ")") + "+" + deep("(", 8, "1", ")") + "*" + "-".repeat(8) + "1;", 0, -1);
        Checks.dueErrorAtMark(TELL + deep("(", 8, "1", ")") + "+((((((((^(1)))))))));", 1);
    }

    private static void depthOfMinAndMax() {
        for (String word : new String[] {"min", "max"}) {
            Checks.dueError(TELL + deep(word + "(", 8, "1", ",1)") + ";", 0, -1);
            Checks.dueErrorAtMark(TELL + (word + "(").repeat(8) + word + "^(1" + ",1)".repeat(9) + ";", 1);
            Checks.dueError(TELL + deep(word + "(1,", 8, "1", ")") + ";", 0, -1);
            Checks.dueErrorAtMark(TELL + (word + "(1,").repeat(8) + word + "^(1,1" + ")".repeat(9) + ";", 1);
            Checks.dueErrorAtMark(TELL + (word + "(1,").repeat(8) + "^-1" + ")".repeat(8) + ";", 1);
            Checks.dueErrorAtMark(TELL + (word + "(").repeat(8) + "^(1" + ",1)".repeat(8) + ";", 1);
            // behind the , it is as deep as ahead of it, and behind the ) less deep
            Checks.dueError(TELL + word + "(" + deep("(", 7, "1", ")") + "," + deep("(", 7, "1", ")") + ")*"
                + deep("(", 8, "1", ")") + ";", 0, -1);
        }
    }

    private static void depthOfBrackets() {
        Checks.dueError(WHEN + deep("[", 8, "1=1", "]") + ";", 0, -1);
        Checks.dueErrorAtMark(WHEN + "[[[[[[[[^[1=1]]]]]]]]];", 1);
        Checks.dueErrorAtMark(WHEN + "[[[[[[[[^(1)=1]]]]]]]];", 1);
        Checks.dueErrorAtMark(WHEN + "[[[[[[[[1=^-1]]]]]]]];", 1);
        Checks.dueErrorAtMark(WHEN + "[[[[[[[[^not 1=1]]]]]]]];", 1);
        Checks.dueError(WHEN + "[[[[[[[[1=1]]]]]]] and " + deep("[", 7, "1=1", "]") + "] or " + deep("[", 8, "1=1", "]") + ";", 0, -1);
    }

    private static void depthOfTurned() {
        Checks.dueError(TELL + "-".repeat(8) + "1;", 0, -1);
        Checks.dueErrorAtMark(TELL + "--------^-1;", 1);
        Checks.dueErrorAtMark(TELL + "--------^(1);", 1);
        // it turns the value alone, so that what follows is as deep as ahead of it
        Checks.dueError(TELL + "--------1*--------1+--------1/(1);", 0, -1);
        Checks.dueError(TELL + "-(------1-------1);", 0, -1);
        // a - between two products is none in front
        Checks.dueError(TELL + "1" + "-1".repeat(50) + ";", 0, -1);
        Checks.dueError(TELL + "((((((((1-1))))))));", 0, -1);
        Checks.dueErrorAtMark(TELL + "((((((((1-^-1))))))));", 1);
    }

    private static void depthOfNot() {
        Checks.dueError(WHEN + "not ".repeat(8) + "1=1;", 0, -1);
        Checks.dueErrorAtMark(WHEN + "not ".repeat(8) + "^not 1=1;", 1);
        Checks.dueErrorAtMark(WHEN + "not ".repeat(8) + "^[1=1];", 1);
        Checks.dueErrorAtMark(WHEN + "not ".repeat(8) + "^-1=1;", 1);
        // it turns both sides of the =, and nothing behind the test
        Checks.dueErrorAtMark(WHEN + "not ".repeat(8) + "1=^(1);", 1);
        Checks.dueError(WHEN + "not ".repeat(8) + "1=1 and " + "not ".repeat(8) + "1=1 or " + "not ".repeat(8) + "hears a of b;", 0, -1);
        Checks.dueError(WHEN + "not ".repeat(8) + "1=1 and " + deep("(", 8, "1", ")") + "=1;", 0, -1);
    }

    private static void depthAtMostEight() {
        String eight = WHEN + "not [not [-(-(";
        Checks.dueError(eight + "1))=1]];", 0, -1);
        Checks.dueErrorAtMark(eight + "^(1)))=1]];", 1);
        Checks.dueErrorAtMark(eight + "^-1))=1]];", 1);
        Checks.dueErrorAtMark(eight + "min^(1,1)))=1]];", 1);
        String seven = WHEN + "not [not [not [not ";
        Checks.dueError(seven + "not 1=1]]];", 0, -1);
        Checks.dueError(seven + "[1=1]]]];", 0, -1);
        Checks.dueErrorAtMark(seven + "[^[1=1]]]]];", 1);
        Checks.dueErrorAtMark(seven + "not ^not 1=1]]];", 1);
        Checks.dueErrorAtMark(seven + "not ^[1=1]]]];", 1);
    }

    private static void errorOne() {
        Sentences.namesNoBound("Errors.");
        Sentences.says("Error 1: the first token with which the tokens so far are not the beginning of a garden.",
            LanguageBounds::firstWrongToken);
        Sentences.says("This includes a byte with which no token begins", LanguageBounds::byteWithoutToken);
        Sentences.says("a word or number that is too long", "word", LanguageBounds::wordTooLong);
        Sentences.says("a word or number that is too long", "number", LanguageBounds::numberTooLong);
        Sentences.says("the end of the tape (at its length)", LanguageBounds::endOfTheTape);
        String nine = "the (, [, - or not behind which the depth would be 9";
        Sentences.says(nine, "(", () -> depthNine("min^(1,1)=1", "^(1)=1", "^(((1)))=1", "1=^(1)"));
        Sentences.says(nine, "[", () -> depthNine("^[1=1]", "^[[1=1]]"));
        Sentences.says(nine, "-", () -> depthNine("^-1=1", "1=^-1", "^--1=1"));
        Sentences.says(nine, "not", () -> depthNine("^not 1=1", "^not not 1=1"));
        String last = "and the token that would be the 401st (the end of the tape not counted).";
        Sentences.says(last, "400 tokens", LanguageBounds::fourHundredTokens);
        Sentences.says(last, "the 401st", LanguageBounds::the401stToken);
        Sentences.says("The position is that of its first byte.", LanguageBounds::positionOfFirstByte);
    }

    private static void firstWrongToken() {
        Checks.dueErrorAtMark("hedge ^; hedge ; !", 1);
        Checks.dueErrorAtMark("^a hedge b hush 1;", 1);
        Checks.dueErrorAtMark("hedge a ^1 hush 1; abcdefghijk", 1);
        Checks.dueErrorAtMark(WHEN + "1=1 ^1=1;;", 1);
        Checks.dueErrorAtMark("hedge a hush ^" + "x".repeat(11) + ";!", 1);
    }

    private static void byteWithoutToken() {
        for (int sign : new int[] {0, 9, 11, 13, 31, 33, 64, 65, 90, 94, 95, 96, 123, 126, 127, 128, 160, 255}) {
            Checks.dueError(String.valueOf((char) sign), 1, 0);
            Checks.dueError(AHEAD + (char) sign, 1, AHEAD.length());
            Checks.dueError("hedge a hush 1" + (char) sign, 1, 14);
        }
    }

    private static void wordTooLong() {
        Checks.dueErrorAtMark("^abcdefghijk", 1);
        Checks.dueErrorAtMark("hedge  ^abcdefghijk hush 1;", 1);
        Checks.dueErrorAtMark(TELL + "1 when hears ^a1234567890 of b;", 1);
        Checks.dueErrorAtMark("hedge a ^hushhushhushhush 1;", 1);
        Checks.dueErrorAtMark("hedge ^abcdefghijk", 1);
    }

    private static void numberTooLong() {
        Checks.dueErrorAtMark("^1234567", 1);
        Checks.dueErrorAtMark("hedge a hush  ^0000001;", 1);
        Checks.dueErrorAtMark(TELL + "1 + ^1234567;", 1);
        Checks.dueErrorAtMark(TELL + "^1234567", 1);
    }

    private static void endOfTheTape() {
        Checks.dueErrorAtMark("hedge a hush 1^", 1);
        Checks.dueErrorAtMark("hedge^", 1);
        Checks.dueErrorAtMark("hedge a hush 1 \n ^", 1);
        Checks.dueErrorAtMark(TELL + "(1^", 1);
        Checks.dueError(" ".repeat(1995) + "hedge", 1, 2000);
        HedgeNews x = new HedgeNews();
        Checks.write(x, 0, "hedge a hush 1;");
        x.trim(14);
        Checks.due("teach() of what is left", x.teach(), 1);
        Checks.due("errorAt()", x.errorAt(), 14);
    }

    /** Each of the tests is good as it stands, but not behind eight that make it deeper. */
    private static void depthNine(String... tests) {
        for (String marked : tests) {
            Checks.dueError(WHEN + marked.replace("^", "") + ";", 0, -1);
            Checks.dueErrorAtMark(WHEN + deep("[", 8, marked, "]") + ";", 1);
            Checks.dueErrorAtMark(WHEN + "not ".repeat(8) + marked + ";", 1);
            Checks.dueErrorAtMark(WHEN + deep("not [", 4, marked, "]") + ";", 1);
        }
    }

    /** 399 tokens: 5 of the hedge, 3 of the tell, 391 of the sum. */
    private static String tokens399() {
        return "hedge a hush 1;tell a with 1" + "+1".repeat(195);
    }

    private static void fourHundredTokens() {
        Checks.dueError(tokens399() + ";", 0, -1);
        Checks.dueError(tokens399() + "; \n ", 0, -1);
        HedgeNews x = Checks.taught(tokens399() + ";");
        x.passDays(1);
        Checks.due("latestOf(0)", x.latestOf(0), 99);
        Checks.dueErrorAtMark(tokens399() + "^", 1);
        Checks.dueErrorAtMark(tokens399() + "+ ^", 1);
    }

    private static void the401stToken() {
        Checks.dueErrorAtMark(tokens399() + "; ^hedge b hush 1;", 1);
        Checks.dueErrorAtMark(tokens399() + ";^tell", 1);
        Checks.dueErrorAtMark(tokens399() + ";^;", 1);
        Checks.dueErrorAtMark(tokens399() + "; ^!", 1);
        Checks.dueErrorAtMark(tokens399() + "; \n ^abcdefghijk", 1);
        Checks.dueErrorAtMark(tokens399() + "+^1;", 1);
        Checks.dueErrorAtMark(tokens399() + "+^1;hedge", 1);
        Checks.dueErrorAtMark(tokens399() + "; ^tell a with 1;", 1);
    }

    private static void positionOfFirstByte() {
        Checks.dueErrorAtMark("hedge a   ^patience 1;", 1);
        Checks.dueErrorAtMark("hedge a hush \n\n ^when", 1);
        Checks.dueErrorAtMark("hedge a hush 1;  ^123456", 1);
        Checks.dueErrorAtMark(WHEN + "1 <= ^<= 2;", 1);
        Checks.dueErrorAtMark(TELL + "1 \n ^>= 1;", 1);
    }

    private static void otherErrors() {
        Sentences.says("Only if there is no error 1", LanguageBounds::errorOneGoesAhead);
        Sentences.says("keywords, names and numbers are looked at from left to right, and the first error is told, at its token;",
            LanguageBounds::leftToRight);
        Sentences.says("of errors at one token the one with the smallest number.", LanguageBounds::smallestNumber);
        String told = "Error 2: the name behind hedge or rose is that of a hedge or a rose told ahead.";
        Sentences.says(told, "behind hedge", () -> toldBefore("hedge", "hush"));
        Sentences.says(told, "behind rose", () -> toldBefore("rose", "patience"));
        Sentences.says("Error 3: another name is none of what it has to be, told ahead:", LanguageBounds::toldTooLate);
        Sentences.says("behind tell", () -> hedgeAlone("tell ^X with 1"));
        Sentences.says("behind to,", () -> hedgeAlone("listen a to ^X", "leave a to ^X", "listen r to ^X"));
        Sentences.says("behind the of of hears, heard and latest, a hedge;", "hears",
            () -> hedgeAlone("tell a with 1 when hears a of ^X", "tell a with 1 when hears r of ^X"));
        Sentences.says("behind the of of hears, heard and latest, a hedge;", "heard", () -> hedgeAlone("tell a with heard of ^X"));
        Sentences.says("behind the of of hears, heard and latest, a hedge;", "latest", () -> hedgeAlone("tell a with latest of ^X"));
        Sentences.says("behind the of of petals, a rose;", LanguageBounds::roseAlone);
        Sentences.says("behind listen, leave and hears, a hedge or a rose.", "listen", () -> hedgeOrRose("listen ^X to a"));
        Sentences.says("behind listen, leave and hears, a hedge or a rose.", "leave", () -> hedgeOrRose("leave ^X to a"));
        Sentences.says("behind listen, leave and hears, a hedge or a rose.", "hears",
            () -> hedgeOrRose("tell a with 1 when hears ^X of a"));
        Sentences.says("Error 4: the name of the 9th hedge", LanguageBounds::ninthHedge);
        Sentences.says("or of the 9th rose", LanguageBounds::ninthRose);
        Sentences.says("or the first word of the 17th order.", LanguageBounds::seventeenthOrder);
        Sentences.says("Error 5: the number behind hush, or behind patience, is not 1 to 9.", "hush",
            () -> oneToNine("hedge a hush "));
        Sentences.says("Error 5: the number behind hush, or behind patience, is not 1 to 9.", "patience",
            () -> oneToNine("rose a patience "));
        Sentences.says("Hedges, roses and orders are numbered from 0, each in the order in which they are told.",
            LanguageBounds::numberedFromZero);
    }

    private static void errorOneGoesAhead() {
        String[] others = {"hedge a hush 1;hedge a hush 1;", "tell c with 1;", Gardens.hedges(8) + "hedge h8 hush 1;", "hedge a hush 0;"};
        for (int i = 0; i < others.length; i++) {
            HedgeNews x = new HedgeNews();
            Checks.due("teach() of " + others[i], Checks.teach(x, others[i]), i + 2);
            Checks.dueErrorAtMark(others[i] + "^;", 1);
            Checks.dueErrorAtMark(others[i] + "hedge^", 1);
            Checks.dueErrorAtMark(others[i] + "   ^\t", 1);
        }
        Checks.dueErrorAtMark("tell b with 1;tell a with 1" + "+1".repeat(195) + "; ^tell", 1);
    }

    private static void leftToRight() {
        String two = "hedge a hush 1;";
        Checks.dueErrorAtMark(AHEAD + "hedge ^a hush 1;tell c with 1;hedge d hush 0;", 2);
        Checks.dueErrorAtMark(AHEAD + "tell ^c with 1;hedge a hush 1;hedge d hush 0;", 3);
        Checks.dueErrorAtMark(AHEAD + "hedge d hush ^0;tell c with 1;hedge a hush 1;", 5);
        Checks.dueErrorAtMark(AHEAD + "hedge ^a hush 0;", 2);
        Checks.dueErrorAtMark(AHEAD + "listen ^c to d;", 3);
        Checks.dueErrorAtMark(AHEAD + "tell a with heard of ^c when hears d of e;", 3);
        Checks.dueErrorAtMark(two + "tell a with 1;".repeat(16) + "^tell c with 1;hedge a hush 0;", 4);
        Checks.dueErrorAtMark(two + "tell a with 1;".repeat(15) + "tell ^c with 1;tell a with 1;", 3);
        Checks.dueErrorAtMark(Gardens.hedges(8) + "hedge ^h8 hush 0;", 4);
    }

    private static void smallestNumber() {
        Checks.dueErrorAtMark(Gardens.hedges(8) + Gardens.roses(8) + "hedge ^h0 hush 1;", 2);
        Checks.dueErrorAtMark(Gardens.hedges(8) + Gardens.roses(8) + "hedge ^r7 hush 1;", 2);
        Checks.dueErrorAtMark(Gardens.hedges(8) + Gardens.roses(8) + "rose ^r0 patience 1;", 2);
        Checks.dueErrorAtMark(Gardens.hedges(8) + Gardens.roses(8) + "rose ^h7 patience 1;", 2);
    }

    private static void toldBefore(String word, String kind) {
        Checks.dueErrorAtMark("hedge a hush 1;" + word + " ^a " + kind + " 1;", 2);
        Checks.dueErrorAtMark("rose a patience 1;" + word + " ^a " + kind + " 1;", 2);
        Checks.dueErrorAtMark("hedge x hush 1;rose y patience 1;hedge abcdefghij hush 1;" + word + " ^abcdefghij " + kind + " 1;", 2);
        Checks.dueErrorAtMark(Gardens.hedges(7) + Gardens.roses(7) + word + " ^h6 " + kind + " 1;", 2);
        Checks.dueErrorAtMark(Gardens.hedges(7) + Gardens.roses(7) + word + " ^r6 " + kind + " 1;", 2);
        Checks.dueErrorAtMark(Gardens.hedges(7) + Gardens.roses(7) + word + " ^h0 " + kind + " 1;", 2);
        Checks.dueError("hedge a hush 1;rose b patience 1;" + word + " aa " + kind + " 1;" + word + " c " + kind + " 1;", 0, -1);
        HedgeNews x = Checks.taught("hedge a hush 1;rose b patience 1;");
        for (int times = 0; times < 3; times++) {
            Checks.due("what was told on another tape is not told ahead",
                Checks.teach(x, word + " a " + kind + " 1;" + word + " b " + kind + " 1;"), 0);
        }
    }

    private static void toldTooLate() {
        Checks.dueErrorAtMark("tell ^a with 1;hedge a hush 1;", 3);
        Checks.dueErrorAtMark("hedge a hush 1;listen ^b to a;hedge b hush 1;", 3);
        Checks.dueErrorAtMark("hedge a hush 1;listen a to ^b;hedge b hush 1;", 3);
        Checks.dueErrorAtMark("hedge a hush 1;tell a with petals of ^r;rose r patience 1;", 3);
        Checks.dueErrorAtMark("hedge a hush 1;tell a with 1 when hears ^r of a;rose r patience 1;", 3);
        Checks.dueError("hedge a hush 1;tell a with 1;hedge b hush 1;listen a to b;rose r patience 1;leave r to b;", 0, -1);
        HedgeNews x = Checks.taught(AHEAD);
        for (int times = 0; times < 3; times++) {
            Checks.due("what was told on another tape is not told ahead", Checks.teach(x, "tell a with 1;"), 3);
            Checks.due("teach() again", Checks.teach(x, AHEAD), 0);
        }
    }

    private static void hedgeAlone(String... orders) {
        for (String order : orders) {
            Checks.dueErrorAtMark(AHEAD + order.replace("X", "c") + ";", 3);
            Checks.dueErrorAtMark(AHEAD + order.replace("X", "r") + ";", 3);
            Checks.dueError(AHEAD + order.replace("^X", "a") + ";", 0, -1);
            Checks.dueError(AHEAD + order.replace("^X", "b") + ";", 0, -1);
        }
    }

    private static void roseAlone() {
        Checks.dueErrorAtMark(TELL + "petals of ^c;", 3);
        Checks.dueErrorAtMark(TELL + "petals of ^a;", 3);
        Checks.dueErrorAtMark(TELL + "petals of ^b;", 3);
        Checks.dueError(TELL + "petals of r;", 0, -1);
        Checks.dueErrorAtMark(TELL + "petals of r when heard of a < petals of ^a;", 3);
    }

    private static void hedgeOrRose(String order) {
        Checks.dueErrorAtMark(AHEAD + order.replace("X", "c") + ";", 3);
        Checks.dueErrorAtMark(AHEAD + order.replace("X", "aa") + ";", 3);
        Checks.dueError(AHEAD + order.replace("^X", "a") + ";", 0, -1);
        Checks.dueError(AHEAD + order.replace("^X", "b") + ";", 0, -1);
        Checks.dueError(AHEAD + order.replace("^X", "r") + ";", 0, -1);
    }

    private static void ninthHedge() {
        Checks.dueError(Gardens.hedges(8), 0, -1);
        Checks.dueErrorAtMark(Gardens.hedges(8) + "hedge ^h8 hush 1;", 4);
        Checks.dueErrorAtMark(Gardens.hedges(8) + Gardens.roses(8) + "hedge ^h8 hush 1;hedge h9 hush 1;", 4);
        Checks.dueErrorAtMark(Gardens.roses(8) + Gardens.hedges(8) + "hedge ^h8 hush 1;", 4);
        Checks.dueError(Gardens.roses(8) + Gardens.hedges(8), 0, -1);
    }

    private static void ninthRose() {
        Checks.dueError(Gardens.roses(8), 0, -1);
        Checks.dueErrorAtMark(Gardens.roses(8) + "rose ^r8 patience 1;", 4);
        Checks.dueErrorAtMark(Gardens.hedges(8) + Gardens.roses(8) + "rose ^r8 patience 1;rose r9 patience 1;", 4);
        Checks.dueErrorAtMark(Gardens.roses(8) + "rose ^r8 patience 0;", 4);
    }

    private static void seventeenthOrder() {
        String sixteen = AHEAD + "tell a with 1;listen a to b;leave a to b;tell b with 1 when 1=1;".repeat(4);
        Checks.dueError(sixteen, 0, -1);
        Checks.dueErrorAtMark(sixteen + "^tell a with 1;", 4);
        Checks.dueErrorAtMark(sixteen + " ^listen a to b;", 4);
        Checks.dueErrorAtMark(sixteen + "\n^leave a to b when 1=1;", 4);
        Checks.dueErrorAtMark(sixteen + "hedge c hush 1;^tell c with 1;tell c with 1;", 4);
        HedgeNews x = Checks.taught(sixteen);
        Checks.due("sixteen on the next tape", Checks.teach(x, sixteen), 0);
    }

    private static void oneToNine(String line) {
        for (int number = 0; number <= 20; number++) {
            boolean isGood = number >= 1 && number <= 9;
            Checks.dueError(line + number + ";", isGood ? 0 : 5, isGood ? -1 : line.length());
        }
        Checks.dueErrorAtMark(line + "^999999;", 5);
        Checks.dueErrorAtMark(line + "^000000;", 5);
        Checks.dueErrorAtMark(line + "^000010;", 5);
        Checks.dueError(line + "000009;", 0, -1);
        // 256 + 1 and 65536 + 1 are not 1
        Checks.dueErrorAtMark(line + "^257;", 5);
        Checks.dueErrorAtMark(line + "^65537;", 5);
        Checks.dueError("hedge z hush 1;tell z with 0;tell z with 10;", 0, -1);
    }

    private static void numberedFromZero() {
        HedgeNews x = Checks.taught("rose q patience 8;hedge z hush 7;tell z with 3;rose p patience 6;hedge y hush 5;tell z with 4;"
            + "rose o patience 4;");
        Checks.due("patienceOf(0)", x.patienceOf(0), 8);
        Checks.due("patienceOf(1)", x.patienceOf(1), 6);
        Checks.due("patienceOf(2)", x.patienceOf(2), 4);
        Checks.due("hushOf(0)", x.hushOf(0), 7);
        Checks.due("hushOf(1)", x.hushOf(1), 5);
        Checks.dueThrow("hushOf(2)", x, Checks.IOOBE, () -> x.hushOf(2));
        Checks.dueThrow("patienceOf(3)", x, Checks.IOOBE, () -> x.patienceOf(3));
        x.passDays(1);
        Checks.due("latestOf(0)", x.latestOf(0), 4);
    }
}
