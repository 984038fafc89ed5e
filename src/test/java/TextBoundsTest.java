import java.util.function.ToIntFunction;

/** Section 1 and promises 1 to 9, sentence by sentence: what stands at a bound, just below it and just above it. */
public final class TextBoundsTest {
    private static final String Z = Check.SLEEPS_ALL_DAY;
    private static final String FIGURES = "0123456789";
    private static final String M = "m1 2 1;";
    private static final String P = "p0 0" + Z + ";";
    private static final String TWO = M + P + P;
    // As much of everything as there may be, in as many letters as there may be; the last letter is the 250th.
    private static final String FULL_TOWN = "m5 9 9;p60 99" + Z + ";" + P + P + P + P + "c2;c3;c4;c60;"
        + "d0 0 1;d0 0 1;d0 0 1;d0 0 1;d0 0 1;d0 0 1;d0 0 1;d4 71 99;u0 1;u1 2;u2 3;u3 4;u4 5;";

    public static void main(String[] args) {
        noBedsAtFirst();
        aLetterIsANumber();
        theTextIsFull();
        aFullTextIsRead();
        numbersAtTheirBounds();
        aRowHasSoManyLetters();
        soManyPeople();
        soManyCoins();
        soManyDebts();
        bedsFirstAndOnce();
        coinsAreUnlike();
        aYawnIsToldOnce();
        peopleAreToldAhead();
        blanksMayStand();
        numbersSideBySide();
        lettersThatCannotStand();
        theEndOfATextCutShort();
        theFirstLetterWithAFault();
        ofOneLetterTheLeastFault();
        anEmptyText();
        theTextIsEmptyBehindCapital();
        aNewCapitalBegins();
        theFaultIsOfTheLatest();
        whatIsTold();
        whoIsTold();
        hoursOfARow();
        coinsAsTold();
        debtsAsTold();
        Check.end();
    }

    private static void noBedsAtFirst() {
        Check.says("Promise 1: No BEDS.");
        SleepMint x = new SleepMint();
        for (int what = 0; what < 12; what++) Check.due("told(" + what + ")", x.told(what), 0);
        Check.due("fault()", x.fault(), Check.NONE);
        Check.due("hour(1)", x.hour(1), Check.NOT);
        Check.due("drift(1)", x.drift(1), Check.NOT);
        Check.due("firstShort(0)", x.firstShort(0), Check.NONE);
        Check.due("firstShort(1)", x.firstShort(1), Check.NONE);
        Check.due("richest(0, 0)", x.richest(0, 0), Check.NONE);
        Check.due("coins(200, -1)", x.coins(200, -1), 200);
        Check.due("coins(200, 1)", x.coins(200, 1), 200);
        Check.due("coins(200, 60)", x.coins(200, 60), 0);
        Check.due("robbed(0, 0, 0)", x.robbed(0, 0, 0), 1);
        Check.due("robbed(0, 0, 1)", x.robbed(0, 0, 1), 0);
        Check.due("robbed(0, 1, 1)", x.robbed(0, 1, 1), Check.NONE);
        Check.due("run(0, 0)", x.run(0, 0), 0);
        Check.due("run(0, 1)", x.run(0, 1), 0);
        Check.due("tear()", x.tear(), 0);
        Check.due("judge()", x.judge(), Check.NONE);
        Check.due("goBack(0)", x.goBack(0), Check.NOT);
        Check.due("goBack(1)", x.goBack(1), Check.NOT);
        Check.due("seed(5)", x.seed(5), 0);
        Check.due("capital()", x.capital(), 0);
    }

    private static void aLetterIsANumber() {
        Check.says("Promise 2: One letter (a number 0 .. 255) comes behind THE TEXT: how many it has.");
        SleepMint x = new SleepMint();
        Check.due("feed(-1)", x.feed(-1), Check.OUTSIDE);
        Check.due("feed(0)", x.feed(0), 1);
        Check.due("feed(1)", x.feed(1), 2);
        Check.due("feed(254)", x.feed(254), 3);
        Check.due("feed(255)", x.feed(255), 4);
        Check.due("feed(256)", x.feed(256), Check.OUTSIDE);
        Check.due("feed(256 + 'm')", x.feed(256 + 'm'), Check.OUTSIDE);
        Check.due("feed(-2147483648)", x.feed(Integer.MIN_VALUE), Check.OUTSIDE);
        Check.due("feed(2147483647)", x.feed(Integer.MAX_VALUE), Check.OUTSIDE);
        Check.due("told(6)", x.told(6), 4);
    }

    private static void theTextIsFull() {
        Check.says("Promise 2: OUTSIDE, FULL (250).");
        SleepMint x = new SleepMint();
        for (int k = 1; k <= 249; k++) x.feed(' ');
        Check.due("told(6)", x.told(6), 249);
        Check.due("feed(32), the 250th", x.feed(' '), 250);
        Check.due("feed(32), the 251st", x.feed(' '), Check.FULL);
        Check.due("feed(256), the 251st", x.feed(256), Check.OUTSIDE);
        Check.due("feed(-1), the 251st", x.feed(-1), Check.OUTSIDE);
        Check.due("told(6)", x.told(6), 250);
        // What was refused is not in the text, and the next text begins anew.
        Check.due("capital()", x.capital(), 0);
        Check.due("feed(32)", x.feed(' '), 1);
    }

    private static void aFullTextIsRead() {
        Check.says("THE CAPITAL is told in a text (250 letters at most)");
        Check.due("letters of the full town", FULL_TOWN.length(), 250);
        Check.good(FULL_TOWN, 5);
        // One letter more is refused: the last clause has no end then.
        Check.bad(" " + FULL_TOWN, 1, 250);
        Check.good(M + " ".repeat(243), 0);
        Check.good(" ".repeat(243) + M, 0);
        Check.bad(" ".repeat(244) + M, 1, 250);
        Check.bad(M + " ".repeat(242) + "c", 1, 250);
        Check.bad(M + " ".repeat(242) + ";", 1, 249);
        Check.bad(M + " ".repeat(242) + "m", 3, 249);
        Check.bad(M + " ".repeat(241) + "c1", 2, 249);
    }

    private static void numbersAtTheirBounds() {
        Check.says("'m' B D G ';' (BEDS B, 1 .. 5)");
        number("", "m# 2 1;", 1, 5, x -> x.told(0));
        Check.says("(the D-th hour of a sleep and each later one is DEEP, 2 .. 9)");
        number("", "m1 # 1;", 2, 9, x -> x.told(1));
        Check.says("(worth G, 1 .. 9)");
        number("", "m1 2 #;", 1, 9, x -> x.told(2));
        Check.says("'p' T Q ROW ';' (TIRED T, 0 .. 60)");
        number(M, "p# 0" + Z + ";", 0, 60, x -> x.person(0, 0));
        Check.says("(PURSE Q, 0 .. 99)");
        number(M, "p0 #" + Z + ";", 0, 99, x -> x.person(0, 1));
        Check.says("'c' W ';' (worth W, 2 .. 60)");
        number(M, "c#;", 2, 60, x -> x.coin(0));
        Check.says("'d' P H V ';' (PERSON P told ahead)");
        number(TWO, "d# 0 1;", 0, 1, x -> x.debt(0, 0));
        Check.says("(at hour H, 0 .. 71)");
        number(TWO, "d0 # 1;", 0, 71, x -> x.debt(0, 1));
        Check.says("(owes V, 1 .. 99)");
        number(TWO, "d0 0 #;", 1, 99, x -> x.debt(0, 2));
        Check.says("'u' P Y ';' (PERSON P told ahead)");
        number(TWO, "u# 7;", 0, 1, x -> x.person(0, 3) == 7 ? 0 : x.person(1, 3) == 7 ? 1 : -1);
        Check.says("(has a YAWN of Y, 1 .. 20)");
        number(TWO, "u1 #;", 1, 20, x -> x.person(1, 3));
    }

    /** A clause with a '#' in the place of a number: the number at its bounds and past them, with few and many figures. */
    private static void number(String ahead, String clause, int low, int high, ToIntFunction<SleepMint> seen) {
        int place = ahead.length() + clause.indexOf('#');
        String text = ahead + clause;
        for (int v : new int[] {low, low + 1, high - 1, high}) {
            for (String figures : new String[] {"" + v, threeFigures(v)}) {
                String told = text.replace("#", figures);
                SleepMint x = new SleepMint();
                Check.due("capital() of " + told + " is no fault", Check.tell(x, told) >= 0 ? 1 : 0, 1);
                Check.due("fault() of " + told, x.fault(), Check.NONE);
                Check.due("the number in " + told, seen.applyAsInt(x), v);
            }
        }
        // A NUMBER out of its bounds, or of four figures or more: fault 2 at its first figure.
        if (low > 0) Check.bad(text.replace("#", "" + (low - 1)), 2, place);
        Check.bad(text.replace("#", "" + (high + 1)), 2, place);
        Check.bad(text.replace("#", "999"), 2, place);
        Check.bad(text.replace("#", "1000"), 2, place);
        Check.bad(text.replace("#", "0" + threeFigures(low)), 2, place);
        Check.bad(text.replace("#", "0" + threeFigures(high)), 2, place);
        // 2 to the 32 and the number itself: it must not wrap around.
        Check.bad(text.replace("#", "" + (4294967296L + high)), 2, place);
        Check.bad(text.replace("#", "-1"), 1, place);
    }

    private static String threeFigures(int v) {
        return v < 10 ? "00" + v : v < 100 ? "0" + v : "" + v;
    }

    private static void aRowHasSoManyLetters() {
        Check.says("ROW: 24 letters: what he does at each hour of a day: z sleeps, w works, . rests");
        String ahead = M + "p0 0 ";
        int at = ahead.length();
        SleepMint x = Check.good(ahead + "zw.w.zzzzzzzzzzzzzzzz.wz;", 1);
        int[] first = {0, 1, 2, 1, 2, 0};
        for (int h = 0; h < 6; h++) Check.due("row(0, " + h + ")", x.row(0, h), first[h]);
        Check.due("row(0, 21)", x.row(0, 21), 2);
        Check.due("row(0, 22)", x.row(0, 22), 1);
        Check.due("row(0, 23)", x.row(0, 23), 0);
        Check.says("1 it cannot stand there (another letter in a ROW, too few of them: at what is there)");
        Check.bad(ahead + ";", 1, at);
        Check.bad(ahead + Z.substring(1) + ";", 1, at + 23);
        Check.bad(ahead + Z.substring(1) + "  ;", 1, at + 25);
        Check.bad(ahead + Z.substring(1) + "c2;", 1, at + 23);
        Check.bad(ahead + Z + "z;", 1, at + 24);
        Check.bad(ahead + Z + " .;", 1, at + 25);
        Check.bad(ahead + "Z" + Z.substring(1) + ";", 1, at);
        Check.bad(ahead + Z.substring(1) + "x;", 1, at + 23);
        Check.bad(ahead + "zz1" + Z.substring(3) + ";", 1, at + 2);
    }

    private static void soManyPeople() {
        Check.says("5 PEOPLE at most; 3 a sixth 'p' (at it)");
        String five = M + P + P + P + P + P;
        Check.good(M, 0);
        Check.good(M + P, 1);
        Check.good(M + P + P + P + P, 4);
        Check.good(five, 5);
        Check.bad(five + P, 3, five.length());
        Check.bad(five + "p", 3, five.length());
        Check.bad(five + "  p999", 3, five.length() + 2);
        Check.bad(five + "c2;p", 3, five.length() + 3);
    }

    private static void soManyCoins() {
        Check.says("4 COINS at most; 3 a fifth 'c' (at it)");
        String four = M + "c2;c3;c4;c5;";
        Check.due("told(4)", Check.good(M, 0).told(4), 0);
        Check.due("told(4)", Check.good(M + "c2;c3;c4;", 0).told(4), 3);
        Check.due("told(4)", Check.good(four, 0).told(4), 4);
        Check.bad(four + "c6;", 3, four.length());
        Check.bad(four + "c", 3, four.length());
        // At the word, not at the worth that was told.
        Check.bad(four + "c2;", 3, four.length());
        Check.bad(four + P + " c0;", 3, four.length() + P.length() + 1);
    }

    private static void soManyDebts() {
        Check.says("8 DEBTS at most; 3 a ninth 'd' (at it)");
        String eight = M + P + "d0 0 1;d0 0 1;d0 0 1;d0 0 1;d0 0 1;d0 0 1;d0 0 1;d0 0 1;";
        Check.due("told(5)", Check.good(M + P, 1).told(5), 0);
        Check.due("told(5)", Check.good(eight.substring(0, eight.length() - 7), 1).told(5), 7);
        Check.due("told(5)", Check.good(eight, 1).told(5), 8);
        Check.bad(eight + "d0 0 1;", 3, eight.length());
        Check.bad(eight + "d", 3, eight.length());
        // At the word, not at the person that was not told.
        Check.bad(eight + "d9 0 1;", 3, eight.length());
        Check.bad(eight + P + " d0 0 1;", 3, eight.length() + P.length() + 1);
    }

    private static void bedsFirstAndOnce() {
        Check.says("'m' first, once; 1 another word first than 'm'; 3 'm' again (at it)");
        for (String word : new String[] {"p", "c", "d", "u", P, "c2;", "d0 0 1;", "u0 1;"}) {
            Check.bad(word, 1, 0);
            Check.bad("  " + word + M, 1, 2);
        }
        Check.bad(M + "m", 3, 7);
        Check.bad(M + M, 3, 7);
        Check.bad(M + "  m9", 3, 9);
        Check.bad(TWO + "c2;m5 9 9;", 3, TWO.length() + 3);
    }

    private static void coinsAreUnlike() {
        Check.says("unlike ones; 4 a COIN of a worth that was told (at the W)");
        Check.good(M + "c2;c20;c22;", 0);
        Check.bad(M + "c2;c2;", 4, 11);
        Check.bad(M + "c2;c02;", 4, 11);
        Check.bad(M + "c2;c  002;", 4, 13);
        Check.bad(M + "c60;c3;c60;", 4, 15);
        Check.bad(M + "c5;c6;c7;c7;", 4, 17);
        Check.bad(M + "c2;c2", 4, 11);
        // A text with a fault ahead tells no worths to the next text.
        SleepMint x = new SleepMint();
        Check.tell(x, M + "c7;c7;");
        Check.due("capital() of the next text", Check.tell(x, M + "c7;"), 0);
    }

    private static void aYawnIsToldOnce() {
        Check.says("'u': untold 1; each once; 4 'u' of a PERSON again (at the P)");
        SleepMint x = Check.good(TWO + "u1 20;", 2);
        Check.due("person(0, 3)", x.person(0, 3), 1);
        Check.due("person(1, 3)", x.person(1, 3), 20);
        int at = TWO.length();
        Check.good(TWO + "u0 5;u1 5;", 2);
        Check.bad(TWO + "u0 5;u0 5;", 4, at + 6);
        Check.bad(TWO + "u1 5;u0 5;u1 6;", 4, at + 11);
        Check.bad(TWO + "u0 5;u  00 5;", 4, at + 8);
        // One that is told as 1 is told, too; and the P stands ahead of the Y.
        Check.bad(TWO + "u0 1;u0", 4, at + 6);
        Check.bad(TWO + "u0 1;u0 21;", 4, at + 6);
        Check.tell(x, TWO);
        Check.due("person(1, 3) of the next text", x.person(1, 3), 1);
        Check.due("capital() of the next text", Check.tell(x, TWO + "u1 3;"), 2);
    }

    private static void peopleAreToldAhead() {
        Check.says("2 a PERSON that was not told yet (at its first)");
        Check.bad(M + "d0 0 1;" + P, 2, 8);
        Check.bad(M + "u0 1;" + P, 2, 8);
        String one = M + P;
        Check.bad(one + "d1 0 1;" + P, 2, one.length() + 1);
        Check.bad(one + "d 001 0 1;" + P, 2, one.length() + 2);
        Check.bad(one + "u1 1;" + P, 2, one.length() + 1);
        Check.good(one + "d0 0 1;u0 2;" + P + "d1 0 1;u1 2;", 2);
        String five = M + P + P + P + P + P;
        Check.good(five + "d4 0 1;u4 1;", 5);
        Check.bad(five + "d5 0 1;", 2, five.length() + 1);
        Check.bad(five + "u5 1;", 2, five.length() + 1);
    }

    private static void blanksMayStand() {
        Check.says("letters of a ROW stand side by side or with blanks (32); blanks may stand anywhere but within NUMBERS");
        String row = "z w . z  w  .   z".replace(" ", "") + "wwwwwwwwwwwwwwwww";
        StringBuilder wide = new StringBuilder("  m  1  2  1  ;  p  0  0  ");
        for (int h = 0; h < 24; h++) wide.append(row.charAt(h)).append(h % 3 == 0 ? "" : " ");
        SleepMint x = Check.good(wide + "  ;  c  2  ;  d  0  1  1  ;  u  0  1  ;  ", 1);
        for (int h = 0; h < 24; h++) Check.due("row(0, " + h + ")", x.row(0, h), "zw.".indexOf(row.charAt(h)));
        // None needs to stand but between two NUMBERS.
        Check.good("m1 2 1;p0 0" + row + ";c2;d0 1 1;u0 1;", 1);
        Check.bad(M + "c1 2;", 2, 8);
        Check.bad(M + "c2 0;", 1, 10);
        // 9, 10 and 13 are no blanks.
        for (char other : new char[] {9, 10, 11, 12, 13, 31, 33, 160, 0}) {
            Check.bad(other + M, 1, 0);
            Check.bad(M + other, 1, 7);
            Check.bad("m1" + other + "2 1;", 1, 2);
            Check.bad(M + "p0 0 zz" + other, 1, 14);
        }
    }

    private static void numbersSideBySide() {
        Check.says("two NUMBERS side by side need one");
        Check.bad("m121;", 2, 1);
        Check.bad("m12 1;", 2, 1);
        Check.bad("m1 21;", 2, 3);
        Check.bad(M + "p00" + Z + ";", 1, 10);
        Check.bad(TWO + "d001;", 1, TWO.length() + 4);
        Check.bad(TWO + "u01;", 1, TWO.length() + 3);
    }

    private static void lettersThatCannotStand() {
        Check.says("1 it cannot stand there (a letter that is no word)");
        onlyThese("", " m");
        onlyThese("  ", " m");
        onlyThese(M, " mpcdu");
        onlyThese(M + " ", " mpcdu");
        onlyThese(TWO + "c2;", " mpcdu");
        onlyThese("m", " " + FIGURES);
        onlyThese("m1", " " + FIGURES);
        onlyThese("m1 ", " " + FIGURES);
        onlyThese("m1 2", " " + FIGURES);
        onlyThese("m1 2 1", " ;" + FIGURES);
        onlyThese("m1 2 1 ", " ;");
        onlyThese(M + "p", " " + FIGURES);
        onlyThese(M + "p0", " " + FIGURES);
        onlyThese(M + "p0 0", " zw." + FIGURES);
        onlyThese(M + "p0 0 ", " zw.");
        onlyThese(M + "p0 0z", " zw.");
        onlyThese(M + "p0 0" + Z.substring(1), " zw.");
        onlyThese(M + "p0 0" + Z, " ;");
        onlyThese(M + "c", " " + FIGURES);
        onlyThese(M + "c2", " ;" + FIGURES);
        onlyThese(M + "c2 ", " ;");
        onlyThese(TWO + "d", " " + FIGURES);
        onlyThese(TWO + "d0", " " + FIGURES);
        onlyThese(TWO + "d0 0", " " + FIGURES);
        onlyThese(TWO + "d0 0 1", " ;" + FIGURES);
        onlyThese(TWO + "d0 0 1 ", " ;");
        onlyThese(TWO + "u", " " + FIGURES);
        onlyThese(TWO + "u0", " " + FIGURES);
        onlyThese(TWO + "u0 1", " ;" + FIGURES);
        onlyThese(TWO + "u0 1 ", " ;");
    }

    /** Of all letters each other one is fault 1 at its place. */
    private static void onlyThese(String ahead, String mayStand) {
        for (int letter = 0; letter < 256; letter++) {
            if (mayStand.indexOf(letter) < 0) Check.bad(ahead + (char) letter, 1, ahead.length());
        }
    }

    private static void theEndOfATextCutShort() {
        Check.says("FAULTS, at the first letter that has one (the end at the text's length)");
        for (int length = 0; length < FULL_TOWN.length(); length++) {
            String cut = FULL_TOWN.substring(0, length);
            boolean isWhole = length == 0 || cut.endsWith(";");
            int people = length == 0 ? 0 : cut.split("p", -1).length - 1;
            if (isWhole) Check.good(cut, people);
            else Check.bad(cut, 1, length);
            if (isWhole) Check.good(cut + " ", people);
            else Check.bad(cut + " ", 1, length + 1);
        }
    }

    private static void theFirstLetterWithAFault() {
        Check.says("FAULTS, at the first letter that has one");
        Check.bad("m6 1 0;x", 2, 1);
        Check.bad("m1 1 0;x", 2, 3);
        Check.bad("m1 2 0;x", 2, 5);
        Check.bad("m1 2 1;c2;c2;m", 4, 11);
        Check.bad("m1 2 1;c1;c2;c2;m", 2, 8);
        Check.bad("m1 2 1;m;x", 3, 7);
        Check.bad("x m1 2 1;m", 1, 0);
        Check.bad(TWO + "d2 72 0;x", 2, TWO.length() + 1);
        Check.bad(TWO + "d0 72 0;x", 2, TWO.length() + 3);
        Check.bad(TWO + "d0 0 0;x", 2, TWO.length() + 5);
        Check.bad(M + "p61 100 x;", 2, 8);
        Check.bad(M + "p60 100 x;", 2, 11);
        Check.bad(M + "p60 99 x;", 1, 14);
    }

    private static void ofOneLetterTheLeastFault() {
        Check.says("FAULTS, of these the least");
        // Four figures of what was told already: 2 and 4 at one letter.
        Check.bad(M + "c2;c0002;", 2, 11);
        Check.bad(TWO + "u0 1;u0000 1;", 2, TWO.length() + 6);
    }

    private static void anEmptyText() {
        Check.says("An empty text: no BEDS.");
        SleepMint x = Check.town(FULL_TOWN);
        x.hour(5);
        x.write(4, 0);
        x.keep(0);
        Check.due("capital()", x.capital(), 0);
        Check.due("fault()", x.fault(), Check.NONE);
        for (int what = 0; what < 12; what++) Check.due("told(" + what + ")", x.told(what), 0);
        Check.due("person(0, 0)", x.person(0, 0), Check.UNKNOWN);
        Check.due("row(0, 0)", x.row(0, 0), Check.UNKNOWN);
        Check.due("coin(0)", x.coin(0), Check.UNKNOWN);
        Check.due("debt(0, 0)", x.debt(0, 0), Check.UNKNOWN);
        Check.due("hour(1)", x.hour(1), Check.NOT);
        Check.due("drift(1)", x.drift(1), Check.NOT);
        Check.due("goBack(0)", x.goBack(0), Check.NOT);
        Check.due("coins(60, 60)", x.coins(60, 60), 0);
        Check.due("coins(60, -1)", x.coins(60, -1), 60);
        Check.due("firstShort(0)", x.firstShort(0), Check.NONE);
        Check.due("richest(200, 1)", x.richest(200, 1), Check.NONE);
        Check.good("", 0);
        Check.good(" ", 0);
        Check.good(" ".repeat(250), 0);
        nothingIsLeftOfEarlierTexts();
    }

    private static void nothingIsLeftOfEarlierTexts() {
        String text = "m5 9 9;" + P + "c2;d0 0 1;u0 3;";
        SleepMint x = new SleepMint();
        for (int time = 0; time < 4; time++) {
            Check.due("capital()", Check.tell(x, text), 1);
            new Look(x).isDue("the same text again", new Look(Check.town(text)));
        }
        for (int time = 0; time < 2; time++) {
            Check.due("capital() of an empty text", x.capital(), 0);
            new Look(x).isDue("an empty text", new Look(new SleepMint()));
        }
        Check.due("capital()", Check.tell(x, "m1 2 1;" + P), 1);
        Check.due("told(5)", x.told(5), 0);
        Check.due("person(0, 3)", x.person(0, 3), 1);
    }

    private static void theTextIsEmptyBehindCapital() {
        Check.says("Promise 3: THE TEXT (it is empty then, with a FAULT, too) becomes THE CAPITAL");
        SleepMint x = new SleepMint();
        Check.due("capital()", Check.tell(x, M), 0);
        Check.due("told(6)", x.told(6), 0);
        Check.due("feed(109)", x.feed('m'), 1);
        Check.due("capital() with a fault", x.capital(), -11);
        Check.due("told(6) with a fault", x.told(6), 0);
        Check.due("feed(109) with a fault", x.feed('m'), 1);
        // The town that was told first still stands, and the next text is read from its own beginning.
        Check.due("told(0)", x.told(0), 1);
        Check.feedAll(x, "5 9 9;");
        Check.due("capital()", x.capital(), 0);
        Check.due("told(0)", x.told(0), 5);
    }

    private static void aNewCapitalBegins() {
        Check.says("Promise 3: (HOUR 0, nothing PAID, SHORT, nobody sleeps; no BOOK; IMAGES are gone; THE SEED stays)");
        String text = "m1 2 9;p60 5" + Z + ";d0 0 5;d0 0 99;u0 3;c9;";
        SleepMint x = Check.town(text);
        x.seed(4711);
        x.hour(1);
        x.change(0, 5, 1);
        x.write(0, 8);
        x.keep(0);
        x.keep(1);
        Check.due("told(8)", x.told(8), 1);
        Check.due("told(9)", x.told(9), 2);
        Check.due("told(10)", x.told(10), 1);
        Check.due("judge()", x.judge(), 0);
        Check.due("capital() again", Check.tell(x, text), 1);
        new Look(x).isDue("a capital told again", new Look(Check.town(text)));
        Check.due("goBack(0)", x.goBack(0), Check.NOT);
        Check.due("goBack(1)", x.goBack(1), Check.NOT);
        Check.due("judge()", x.judge(), Check.NONE);
        Check.due("seed(1)", x.seed(1), 4711);
        Check.says("Promise 3: how many PEOPLE");
        Check.good(M + P + P + P, 3);
    }

    private static void theFaultIsOfTheLatest() {
        Check.says("Promise 4: The letter of the FAULT of the latest capital(); NONE.");
        SleepMint x = new SleepMint();
        Check.due("fault() ahead of all", x.fault(), Check.NONE);
        Check.tell(x, M + "c2;c2;");
        Check.due("fault()", x.fault(), 11);
        Check.feedAll(x, "x");
        Check.due("fault() ahead of the next capital", x.fault(), 11);
        x.capital();
        Check.due("fault()", x.fault(), 0);
        Check.tell(x, M);
        Check.due("fault() of a good text", x.fault(), Check.NONE);
        Check.tell(x, "m");
        Check.due("fault()", x.fault(), 1);
        x.capital();
        Check.due("fault() of an empty text", x.fault(), Check.NONE);
    }

    private static void whatIsTold() {
        Check.says("Promise 5: told; OUTSIDE.");
        SleepMint x = Check.town(FULL_TOWN);
        int[] most = {5, 9, 9, 5, 4, 8, 0, 0, 0, 0, 0, 0};
        for (int what = 0; what < 12; what++) Check.due("told(" + what + ")", x.told(what), most[what]);
        for (int what : new int[] {-1, 12, Check.NONE, Integer.MIN_VALUE, Integer.MAX_VALUE}) {
            Check.due("told(" + what + ")", x.told(what), Check.OUTSIDE);
        }
        // The eighth debt is bit 7, the fifth person bit 4.
        x.hour(72);
        Check.due("told(7)", x.told(7), 72);
        Check.due("told(8)", x.told(8), 0x7f);
        Check.due("told(9)", x.told(9), 0x80);
        SleepMint last = Check.town("m1 2 1;" + P + P + P + P + "p1 0" + Z + ";");
        last.hour(1);
        Check.due("told(10)", last.told(10), 16);
        SleepMint all = Check.town("m5 2 1;" + "p1 0zzzzzzzzzzzzzzzzzzzzzzzz;".repeat(5));
        Check.due("told(10) ahead of the first hour", all.told(10), 0);
        all.hour(1);
        Check.due("told(10)", all.told(10), 31);
        all.hour(1);
        Check.due("told(10) when nobody is tired", all.told(10), 0);
    }

    private static void whoIsTold() {
        Check.says("Promise 6: Of a PERSON; UNKNOWN, OUTSIDE.");
        SleepMint x = Check.town(FULL_TOWN);
        int[] first = {60, 99, 0, 1};
        int[] last = {0, 0, 0, 5};
        for (int what = 0; what < 4; what++) {
            Check.due("person(0, " + what + ")", x.person(0, what), first[what]);
            Check.due("person(4, " + what + ")", x.person(4, what), last[what]);
        }
        Check.due("person(4, -1)", x.person(4, -1), Check.OUTSIDE);
        Check.due("person(4, 4)", x.person(4, 4), Check.OUTSIDE);
        Check.due("person(5, 0)", x.person(5, 0), Check.UNKNOWN);
        Check.due("person(-1, 0)", x.person(-1, 0), Check.UNKNOWN);
        Check.due("person(5, 4)", x.person(5, 4), Check.UNKNOWN);
        Check.due("person(-1, -1)", x.person(-1, -1), Check.UNKNOWN);
        Check.due("person(1, 0) where there is one", Check.town(M + P).person(1, 0), Check.UNKNOWN);
        Check.due("person(0, 0) where there is nobody", Check.town(M).person(0, 0), Check.UNKNOWN);
    }

    private static void hoursOfARow() {
        Check.says("Promise 7: What a ROW says at an hour of the day (0 .. 23); UNKNOWN, OUTSIDE.");
        SleepMint x = Check.town(M + P + P + P + P + "p0 0w......................z;");
        Check.due("row(4, -1)", x.row(4, -1), Check.OUTSIDE);
        Check.due("row(4, 0)", x.row(4, 0), 1);
        Check.due("row(4, 1)", x.row(4, 1), 2);
        Check.due("row(4, 22)", x.row(4, 22), 2);
        Check.due("row(4, 23)", x.row(4, 23), 0);
        Check.due("row(4, 24)", x.row(4, 24), Check.OUTSIDE);
        Check.due("row(3, 24)", x.row(3, 24), Check.OUTSIDE);
        Check.due("row(5, 0)", x.row(5, 0), Check.UNKNOWN);
        Check.due("row(-1, 23)", x.row(-1, 23), Check.UNKNOWN);
        Check.due("row(5, 24)", x.row(5, 24), Check.UNKNOWN);
        Check.due("row(-1, -1)", x.row(-1, -1), Check.UNKNOWN);
        x.hour(1);
        Check.due("row(4, 0) an hour later", x.row(4, 0), 1);
    }

    private static void coinsAsTold() {
        Check.says("Promise 8: Worth of a COIN (as told). UNKNOWN.");
        SleepMint x = Check.town(FULL_TOWN);
        int[] worths = {2, 3, 4, 60};
        for (int c = 0; c < 4; c++) Check.due("coin(" + c + ")", x.coin(c), worths[c]);
        for (int c : new int[] {-1, 4, Integer.MIN_VALUE, Integer.MAX_VALUE}) {
            Check.due("coin(" + c + ")", x.coin(c), Check.UNKNOWN);
        }
        // The COIN worth 1 is not told, and has no number.
        Check.due("coin(0) where none is told", Check.town(M).coin(0), Check.UNKNOWN);
        SleepMint one = Check.town(M + "c60;");
        Check.due("coin(0)", one.coin(0), 60);
        Check.due("coin(1)", one.coin(1), Check.UNKNOWN);
    }

    private static void debtsAsTold() {
        Check.says("Promise 9: Of a DEBT: 0 PERSON, 1 H, 2 V, 3 0 not called, 1 PAID, 2 SHORT. UNKNOWN, OUTSIDE.");
        SleepMint x = Check.town(FULL_TOWN);
        int[] last = {4, 71, 99, 0};
        for (int what = 0; what < 4; what++) Check.due("debt(7, " + what + ")", x.debt(7, what), last[what]);
        Check.due("debt(0, 3)", x.debt(0, 3), 0);
        Check.due("debt(7, -1)", x.debt(7, -1), Check.OUTSIDE);
        Check.due("debt(7, 4)", x.debt(7, 4), Check.OUTSIDE);
        Check.due("debt(8, 0)", x.debt(8, 0), Check.UNKNOWN);
        Check.due("debt(-1, 0)", x.debt(-1, 0), Check.UNKNOWN);
        Check.due("debt(8, 4)", x.debt(8, 4), Check.UNKNOWN);
        Check.due("debt(-1, -1)", x.debt(-1, -1), Check.UNKNOWN);
        x.hour(71);
        Check.due("debt(0, 3)", x.debt(0, 3), 1);
        Check.due("debt(7, 3) ahead of hour 71", x.debt(7, 3), 0);
        x.hour(1);
        Check.due("debt(7, 3) behind hour 71", x.debt(7, 3), 2);
        Check.due("debt(0, 0) where none is told", Check.town(M + P).debt(0, 0), Check.UNKNOWN);
    }
}
