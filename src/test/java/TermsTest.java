/** The Terms of the document, sentence by sentence: each number's ends, each FAULT, each KIND, the YEAR, and what is POURED. */
public final class TermsTest {
    private static final Due T = new Due();
    private static final String FAR = "y60;y60;y60;y60;y60;y60;y60;y60;y60;y60;y60;y60;y60;y60;y60;y60;";
    private static final String SEVEN =
            "co100100500;cm100090600;cb050030404;ci400000990;cs001001009;ch250120205;co100040302;";

    public static void main(String[] args) {
        sizes();
        amounts();
        strengthsAndFigures();
        amountsAndStrengthsStayWithin();
        choices();
        yearNumbers();
        casks();
        letters();
        theEndOfAText();
        theFirstLetterThatIsWrong();
        theFirstKindGoesAhead();
        eachWrongStatement();
        behindAllAheadOfIt();
        oak();
        monks();
        brandy();
        iron();
        sherry();
        humming();
        lents();
        roomForWhatComesBack();
        poured();
        pouredStrengths();
        T.end();
    }

    private static int town(String text) {
        return Due.town(new TheAngelsWantMore(), text);
    }

    private static String digits(int v, int length) {
        StringBuilder b = new StringBuilder();
        b.append(v);
        while (b.length() < length) {
            b.insert(0, '0');
        }
        return b.toString();
    }

    private static String cask(char kind, int size, int amount, int strength, int figure) {
        return "c" + kind + digits(size, 3) + digits(amount, 3) + digits(strength, 2) + figure + ";";
    }

    private static void sizes() {
        T.part("SIZE (1 .. 400)");
        for (char kind : "ombish".toCharArray()) {
            for (int size = 0; size <= 999; size++) {
                T.due("size " + size, town(cask(kind, size, 0, 50, 0)), size >= 1 && size <= 400 ? 1 : -2000);
            }
        }
    }

    private static void amounts() {
        T.part("AMOUNT (0 .. SIZE)");
        for (int size : new int[] {1, 2, 99, 399, 400}) {
            for (int amount : new int[] {0, 1, size - 1, size, size + 1, 999}) {
                boolean fits = amount <= size;
                T.due(amount + " of " + size, town(cask('o', size, amount, 50, 0)), fits ? 1 : -2000);
                TheAngelsWantMore x = Due.townOf(cask('o', size, 0, 50, 0));
                T.due(amount + " filled of " + size, x.fill(0, amount), fits ? 0 : -6);
                T.due("amount", x.cask(0, 2), fits ? amount : 0);
                T.due("nothing below 0", x.fill(0, -1), -4);
            }
        }
    }

    private static void strengthsAndFigures() {
        T.part("STRENGTH (0 .. 99), FIGURE (0 .. 9), TAKEN 0 at first");
        for (int strength = 0; strength <= 99; strength++) {
            for (int figure = 0; figure <= 9; figure++) {
                TheAngelsWantMore x = Due.townOf(cask('b', 100, 50, strength, figure));
                T.due("strength", x.cask(0, 3), strength);
                T.due("figure", x.cask(0, 4), figure);
                T.due("taken", x.cask(0, 5), 0);
            }
        }
    }

    private static void amountsAndStrengthsStayWithin() {
        T.part("AMOUNT (0 .. SIZE), STRENGTH (0 .. 99), TAKEN what they took and did not send back");
        for (int rate = 0; rate <= 40; rate += 8) {
            for (char kind : "ombish".toCharArray()) {
                for (int amount : new int[] {40, 3}) {
                    String town = "r" + digits(rate, 2) + ";" + cask(kind, 40, amount, amount == 40 ? 97 : 2, 9);
                    TheAngelsWantMore x = Due.townOf(town);
                    for (int year = 1; year <= 60; year++) {
                        x.years(1);
                        int left = x.cask(0, 2);
                        int strength = x.cask(0, 3);
                        T.due("amount within", left >= 0 && left <= 40 ? 1 : 0, 1);
                        T.due("strength within", strength >= 0 && strength <= 99 ? 1 : 0, 1);
                        T.due("amount and taken", left + x.cask(0, 5), amount);
                    }
                }
            }
        }
    }

    private static void choices() {
        T.part("RATE (0 .. 40: 10 at first), LENT (1 .. 9: 4 at first), EXCISE (0 .. 9: 2 at first)");
        int[][] ends = {{0, 40, 10}, {1, 9, 4}, {0, 9, 2}};
        String heads = "rle";
        for (int what = 0; what < 3; what++) {
            T.due("at first", new TheAngelsWantMore().count(2 + what), ends[what][2]);
            for (int v = 0; v < (what == 0 ? 100 : 10); v++) {
                boolean fits = v >= ends[what][0] && v <= ends[what][1];
                TheAngelsWantMore x = new TheAngelsWantMore();
                T.due("told " + v, Due.town(x, heads.charAt(what) + digits(v, what == 0 ? 2 : 1) + ";"), fits ? 1 : -2000);
                T.due("then", x.count(2 + what), fits ? v : ends[what][2]);
            }
            for (int v = -2; v <= 42; v++) {
                TheAngelsWantMore x = new TheAngelsWantMore();
                T.due("set(" + what + ", " + v + ")", x.set(what, v), v < ends[what][0] ? -4 : v > ends[what][1] ? -6 : ends[what][2]);
                T.due("then", x.count(2 + what), v < ends[what][0] || v > ends[what][1] ? ends[what][2] : v);
            }
        }
    }

    private static void yearNumbers() {
        T.part("YEAR (0 .. 999; 0 at first), YEARS (1 .. 60)");
        T.due("at first", new TheAngelsWantMore().count(1), 0);
        for (int n = 0; n <= 99; n++) {
            T.due("y " + n, town("y" + digits(n, 2) + ";"), n >= 1 && n <= 60 ? 1 : -2000);
            TheAngelsWantMore x = Due.townOf(FAR);
            T.due("y " + n + " in 960", Due.town(x, "y" + digits(n, 2) + ";"), n >= 1 && n <= 39 ? 1 : -2000);
            T.due("the year then", x.count(1), n >= 1 && n <= 39 ? 960 + n : 960);
            x = Due.townOf(FAR);
            T.due("years(" + n + ") in 960", x.years(n), n < 1 ? -4 : n > 39 ? -6 : 960 + n);
        }
    }

    private static void casks() {
        T.part("CASKS 0 .. as they come (7 at most)");
        TheAngelsWantMore x = new TheAngelsWantMore();
        for (int i = 0; i < 9; i++) {
            T.due("cask " + i, Due.town(x, cask('o', 100, i, 50, 0)), i < 7 ? 1 : -2000);
            T.due("casks", x.count(0), Math.min(7, i + 1));
            T.due("the last one's amount", x.cask(Math.min(6, i), 2), Math.min(6, i));
            T.due("none behind it", x.cask(Math.min(7, i + 1), 2), -1);
        }
    }

    private static void letters() {
        T.part("A TOWN is told in letters, one by one (96 at most)");
        String most = SEVEN + "r10;l4;y05;";
        TheAngelsWantMore x = new TheAngelsWantMore();
        for (int i = 0; i < 95; i++) {
            T.due("letter " + (i + 1), x.letter(most.charAt(i)), i + 1);
        }
        T.due("letter 96", x.letter(';'), 96);
        T.due("letter 97", x.letter(';'), -6);
        T.due("count(8)", x.count(8), 96);
        T.due("95 letters and one more are no town", x.town(), -1095);
        T.due("count(8)", x.count(8), 0);
        T.due("95 letters", most.length(), 95);
        T.due("a town of 95", Due.town(x, most), 10);
        T.due("a town of 96", Due.town(x, "r10;r11;r12;r13;r14;r15;r16;r17;r18;r19;r20;r21;"
                + "r22;r23;r24;r25;r26;r27;r28;r29;r30;r31;r32;r33;"), 24);
        T.due("all of it", x.count(2), 33);
        T.due("97 are one too many, 96 of them a town", Due.town(x, "r10;r11;r12;r13;r14;r15;r16;r17;r18;r19;r20;r21;"
                + "r22;r23;r24;r25;r26;r27;r28;r29;r30;r31;r32;r34;;"), 24);
        T.due("all of it", x.count(2), 34);
    }

    private static void theEndOfAText() {
        T.part("FAULT 1: the end, if something lacks; at least one STATEMENT");
        T.due("no letters", town(""), -1000);
        for (String statement : new String[] {"co400300201;", "r10;", "l4;", "e2;", "p01005;", "y01;"}) {
            for (int length = 1; length < statement.length(); length++) {
                T.due(statement.substring(0, length), town(statement.substring(0, length)), -1000 - length);
                T.due("behind one", town("r10;" + statement.substring(0, length)), -1004 - length);
            }
        }
    }

    private static void theFirstLetterThatIsWrong() {
        T.part("FAULT 1: the place of the first letter with which no TOWN can go on");
        Object[][] due = {{"x", 0}, {";", 0}, {" r10;", 0}, {"R10;", 0}, {"0", 0}, {"r10;;", 4}, {"r10; ", 4}, {"r10;x", 4},
            {"r;", 1}, {"r1;", 2}, {"r100;", 3}, {"r1 ", 2}, {"r-1;", 1}, {"l;", 1}, {"l10;", 2}, {"e;", 1}, {"e10;", 2},
            {"y;", 1}, {"y1;", 2}, {"y001;", 3}, {"p;", 1}, {"p0;", 2}, {"p01;", 3}, {"p010;", 4}, {"p0100;", 5}, {"p010001;", 6},
            {"c;", 1}, {"c1", 1}, {"cc", 1}, {"cO", 1}, {"co;", 2}, {"coo", 2}, {"co10010000;", 10}, {"co1001000000;", 11},
            {"co100100000r", 11}, {"xx", 0}, {"rx;x", 1}, {"r/0;", 1}, {"r:0;", 1}, {"r0/;", 2}, {"r0:;", 2}, {"r00:", 3}, {"r00<", 3}};
        for (Object[] d : due) {
            T.due((String) d[0], town((String) d[0]), -1000 - (Integer) d[1]);
        }
    }

    private static void theFirstKindGoesAhead() {
        T.part("FAULT: kind 1; else kind 2");
        T.due("kind 1 behind kind 2", town("co401000000;x"), -1012);
        T.due("kind 1 behind kind 2", town("r41;l0;y"), -1008);
        T.due("kind 1 within kind 2", town("r41x"), -1003);
        T.due("kind 1 behind all kinds of 2", town("p01001;y00;r"), -1012);
        T.due("kind 2 alone", town("r41;"), -2000);
        T.due("the first of two", town("r40;l0;r41;"), -2004);
        T.due("the first of two", town("l1;r41;l0;"), -2003);
        T.due("the first of many", town("e9;e9;e9;e9;e9;y61;y61;"), -2015);
    }

    private static void eachWrongStatement() {
        T.part("FAULT 2: the place of the first letter of the first STATEMENT that is not as it must be");
        String two = "co100050400;cm100090600;";
        String[] wrong = {"co000000000;", "co401000000;", "co100101000;", "co400401000;", "co999999999;", "r41;", "r99;", "l0;", "y00;",
            "y61;", "y99;", "p01000;", "p01401;", "p01999;", "p02001;", "p20001;", "p99001;", "p00001;", "p11001;", "p01011;",
            "p10051;"};
        String[] right = {"co001000000;", "co400400999;", "co100100000;", "r40;", "r00;", "l1;", "l9;", "e0;", "e9;", "y01;", "y60;",
            "p01010;", "p01001;", "p10050;"};
        for (String statement : wrong) {
            T.due(statement, town(two + statement), -2024);
            T.due("e3;" + statement, town(two + "e3;" + statement), -2027);
        }
        for (String statement : right) {
            T.due(statement, town(two + statement), 3);
            T.due("e3;" + statement, town(two + "e3;" + statement), 4);
        }
    }

    private static void behindAllAheadOfIt() {
        T.part("FAULT 2: behind all ahead of it in the text");
        T.due("90 of 100 are there behind a year", town("co100100500;co100000500;y01;p01090;"), 4);
        T.due("91 are not", town("co100100500;co100000500;y01;p01091;"), -2028);
        T.due("the rate ahead of the years", town("r40;co100100500;co100000500;y01;p01061;"), -2032);
        T.due("the rate behind the years", town("co100100500;co100000500;y01;r40;p01090;"), 5);
        T.due("room for 10 behind a year", town("co100100500;co100100500;y01;p01010;"), 4);
        T.due("none for 11", town("co100100500;co100100500;y01;p01011;"), -2028);
        T.due("a cask ahead", town("co100100500;co100000500;p01001;"), 3);
        T.due("a cask behind", town("co100100500;p01001;co100000500;"), -2012);
        T.due("all poured", town("co100100500;co100000500;p01100;p10100;p01100;"), 5);
        T.due("nothing left", town("co100100500;co100000500;p01100;p01001;"), -2031);
        T.due("year 999", town(FAR + "y38;y01;"), 18);
        T.due("year 1000", town(FAR + "y38;y02;"), -2068);
        T.due("year 1000, one behind", town(FAR + "y38;y01;y01;"), -2072);
        T.due("seven casks and a choice", town(SEVEN + "r10;"), 8);
        T.due("room for no eighth", town(SEVEN + "ch100000500;"), -2084);
        TheAngelsWantMore x = Due.townOf(SEVEN);
        T.due("room for no more, the first of two", Due.town(x, "e4;co100100500;co100100500;"), -2003);
        T.due("a cask from before", Due.town(x, "p10001;p01001;"), -2000);
        x.fill(0, 0);
        T.due("a cask from before", Due.town(x, "p10001;p01001;"), 2);
    }

    /**
     * A cask alone in YEAR 6, of 400 with nothing in it and so much TAKEN, at rate 0. The angels take it in year 1: a
     * tenth (of monks a twentieth) of what is there, and of sherry the figure besides.
     */
    private static TheAngelsWantMore withTaken(char kind, int figure, int taken) {
        TheAngelsWantMore x = Due.townOf(cask(kind, 400, 0, 50, figure));
        int byFigure = kind == 's' ? Math.min(figure, taken) : 0;
        x.fill(0, kind == 'm' ? 20 * taken : kind == 's' && byFigure == taken ? taken : 10 * (taken - byFigure));
        x.set(0, kind == 's' && byFigure == taken ? 0 : 10);
        x.years(1);
        T.due(kind + " taken", x.cask(0, 5), taken);
        x.set(0, 0);
        x.fill(0, 0);
        x.years(5);
        T.due(kind + " still taken in year 6", x.cask(0, 5), taken);
        T.due(kind + " nothing back in year 6", x.cask(0, 2), 0);
        return x;
    }

    /** What comes back in year 7 (and nothing in year 8). */
    private static void back(char kind, int figure, int taken, int due) {
        TheAngelsWantMore x = withTaken(kind, figure, taken);
        x.years(1);
        String name = kind + " of figure " + figure + " and " + taken + " taken: ";
        // Sherry takes its figure of what is there, not of what comes back in the same year.
        T.due(name + "amount", x.cask(0, 2), due);
        T.due(name + "taken", x.cask(0, 5), taken - due);
        if (kind != 's') {
            x.years(6);
            T.due(name + "nothing until year 13", x.cask(0, 2), due);
        }
    }

    private static void taken(TheAngelsWantMore x, int a, int r, int due) {
        T.due("takes(0, " + a + ", " + r + ")", x.takes(0, a, r), due);
    }

    /** Strengths at the end of years 1, 2, .. */
    private static void strengths(char kind, int first, int... due) {
        TheAngelsWantMore x = Due.townOf(cask(kind, 400, 400, first, 1));
        for (int i = 0; i < due.length; i++) {
            x.years(1);
            T.due(kind + " of " + first + " in year " + (i + 1), x.cask(0, 3), due[i]);
        }
    }

    private static void oak() {
        T.part("o OAK: a times r by 100, cut; as it is; half of TAKEN, cut");
        TheAngelsWantMore x = Due.townOf(cask('o', 400, 0, 50, 9));
        taken(x, 99, 1, 0);
        taken(x, 100, 1, 1);
        taken(x, 199, 1, 1);
        taken(x, 200, 1, 2);
        taken(x, 1, 80, 0);
        taken(x, 2, 50, 1);
        taken(x, 2, 49, 0);
        taken(x, 400, 80, 320);
        taken(x, 400, 0, 0);
        taken(x, 0, 80, 0);
        strengths('o', 0, 0, 0, 0, 0, 0, 0, 0);
        strengths('o', 99, 99, 99, 99, 99, 99, 99, 99);
        back('o', 0, 0, 0);
        back('o', 9, 1, 0);
        back('o', 9, 2, 1);
        back('o', 0, 3, 1);
        back('o', 0, 4, 2);
    }

    private static void monks() {
        T.part("m MONKS': half of an OAK's, cut; 1 less (0 at least); nothing");
        TheAngelsWantMore x = Due.townOf(cask('m', 400, 0, 50, 9));
        taken(x, 100, 1, 0);
        taken(x, 100, 2, 1);
        taken(x, 100, 3, 1);
        taken(x, 100, 4, 2);
        // 199 is 1.99 and 1 of it, half of that 0; not the half of 1.99 and more.
        taken(x, 199, 1, 0);
        taken(x, 400, 80, 160);
        taken(x, 0, 80, 0);
        strengths('m', 2, 1, 0, 0, 0, 0, 0, 0);
        strengths('m', 0, 0, 0);
        strengths('m', 99, 98, 97);
        back('m', 9, 9, 0);
        back('m', 1, 20, 0);
    }

    private static void brandy() {
        T.part("b BRANDY: as an OAK's; 1 more (99 at most), if 5 divides YEAR; FIGURE, if TAKEN is as much, else nothing");
        TheAngelsWantMore x = Due.townOf(cask('b', 400, 0, 50, 9));
        taken(x, 99, 1, 0);
        taken(x, 100, 1, 1);
        taken(x, 400, 80, 320);
        strengths('b', 97, 97, 97, 97, 97, 98, 98, 98, 98, 98, 99, 99, 99, 99, 99, 99, 99, 99, 99, 99, 99);
        strengths('b', 0, 0, 0, 0, 0, 1, 1);
        for (int figure = 0; figure <= 9; figure++) {
            for (int taken = 0; taken <= 11; taken++) {
                back('b', figure, taken, taken >= figure ? figure : 0);
            }
        }
    }

    private static void iron() {
        T.part("i IRON: 0; as it is; nothing");
        TheAngelsWantMore x = Due.townOf(cask('i', 400, 0, 50, 9));
        taken(x, 400, 80, 0);
        taken(x, 1, 80, 0);
        strengths('i', 0, 0, 0, 0, 0, 0, 0, 0);
        strengths('i', 99, 99, 99, 99, 99, 99, 99, 99);
        back('i', 9, 0, 0);
        // What was taken before a cask is thought of as iron does not come back: an oak gets 1 of 2, iron none.
        x = withTaken('o', 0, 2);
        x.row(0);
        x.row(0);
        T.due("kinds by which nothing comes back", x.which(0, 0), 2 + 4 + 8 + 16 + 32);
        Due.row(x, 0, 1);
        T.due("kinds by which 1 comes back", x.which(0, 0), 1);
    }

    private static void sherry() {
        T.part("s SHERRY: as an OAK's and FIGURE (no more than a); as a BRANDY's; a third of TAKEN, cut");
        TheAngelsWantMore x = Due.townOf(cask('s', 400, 0, 50, 9));
        taken(x, 0, 0, 0);
        taken(x, 0, 80, 0);
        taken(x, 8, 0, 8);
        taken(x, 9, 0, 9);
        taken(x, 10, 0, 9);
        taken(x, 11, 10, 10);
        taken(x, 10, 10, 10);
        taken(x, 9, 10, 9);
        taken(x, 45, 80, 45);
        taken(x, 46, 80, 45);
        taken(x, 400, 80, 329);
        taken(Due.townOf(cask('s', 400, 0, 50, 0)), 400, 80, 320);
        strengths('s', 98, 98, 98, 98, 98, 99, 99, 99, 99, 99, 99);
        strengths('s', 0, 0, 0, 0, 0, 1, 1);
        back('s', 0, 0, 0);
        back('s', 0, 2, 0);
        back('s', 0, 3, 1);
        back('s', 0, 5, 1);
        back('s', 0, 6, 2);
        back('s', 9, 9, 3);
        back('s', 2, 8, 2);
    }

    private static void humming() {
        T.part("h HUMMING: as an OAK's, twice that, if TAKEN is more than a (no more than a); 1 more (99 at most); nothing");
        TheAngelsWantMore x = withTaken('h', 9, 20);
        taken(x, 21, 50, 10);
        taken(x, 20, 50, 10);
        taken(x, 19, 50, 18);
        // Twice 9 is 18 of 19; twice 10 is more than there is.
        taken(x, 19, 52, 18);
        taken(x, 19, 53, 19);
        taken(x, 10, 50, 10);
        taken(x, 10, 40, 8);
        taken(x, 1, 80, 0);
        taken(x, 2, 50, 2);
        taken(x, 0, 80, 0);
        taken(x, 400, 80, 320);
        taken(Due.townOf(cask('h', 400, 0, 50, 9)), 19, 50, 9);
        strengths('h', 97, 98, 99, 99, 99, 99);
        strengths('h', 0, 1, 2);
        back('h', 9, 20, 0);
        back('h', 1, 1, 0);
    }

    private static void lents() {
        T.part("a YEAR: RATE (twice, 80 at most, in a LENT: if LENT divides YEAR)");
        for (int lent = 1; lent <= 9; lent++) {
            for (int rate : new int[] {0, 1, 10, 39, 40}) {
                // Of 400 the monks' angels take twice the rate; nothing comes back.
                TheAngelsWantMore x = Due.townOf("cm400400500;");
                x.set(0, rate);
                x.set(1, lent);
                for (int year = 1; year <= 20; year++) {
                    int before = x.cask(0, 5);
                    T.due("year", x.years(1), year);
                    int part = year / lent * lent == year ? 4 * rate : 2 * rate;
                    T.due("taken by " + rate + " in year " + year + " of lent " + lent, x.cask(0, 5) - before, part);
                    T.due("less is there", x.fill(0, 400), 400 - part);
                }
            }
        }
    }

    private static void roomForWhatComesBack() {
        T.part("a YEAR: what comes BACK comes (no more than there is room for; TAKEN so much less, AMOUNT more)");
        // 20 are taken, of which 10 come back to an oak.
        int[][] due = {{0, 10, 10}, {389, 399, 10}, {390, 400, 10}, {391, 400, 11}, {399, 400, 19}, {400, 400, 20}};
        for (int[] d : due) {
            TheAngelsWantMore x = withTaken('o', 0, 20);
            x.fill(0, d[0]);
            x.years(1);
            T.due("amount from " + d[0], x.cask(0, 2), d[1]);
            T.due("taken from " + d[0], x.cask(0, 5), d[2]);
        }
        // Of brandy's figure 9, and of a third of sherry's 30.
        TheAngelsWantMore x = withTaken('b', 9, 9);
        x.fill(0, 392);
        x.years(1);
        T.due("brandy", x.cask(0, 2), 400);
        T.due("brandy's taken", x.cask(0, 5), 1);
        x = withTaken('s', 0, 30);
        x.fill(0, 391);
        x.years(1);
        T.due("sherry", x.cask(0, 2), 400);
        T.due("sherry's taken", x.cask(0, 5), 21);
        // What the angels take in the same year makes room, and is among TAKEN: 40 of 400, half of 60 back.
        x = withTaken('o', 0, 20);
        x.fill(0, 400);
        x.set(0, 10);
        x.years(1);
        T.due("oak", x.cask(0, 2), 390);
        T.due("oak's taken", x.cask(0, 5), 30);
    }

    private static void poured() {
        T.part("POURED n (1 .. 400) from one CASK to another: as much is there, there is room");
        int[][] due = {{100, 100, 0, 100, 0}, {100, 100, 0, 101, -3}, {100, 99, 0, 100, -3}, {100, 1, 99, 1, 0}, {100, 2, 99, 2, -3},
            {100, 1, 100, 1, -3}, {100, 0, 0, 1, -3}, {400, 400, 0, 400, 0}, {400, 400, 0, 401, -6}, {400, 400, 1, 400, -3},
            {400, 399, 0, 400, -3}, {400, 400, 0, 0, -4}, {1, 1, 0, 1, 0}, {1, 1, 1, 1, -3}};
        for (int[] d : due) {
            TheAngelsWantMore x = Due.townOf(cask('o', d[0], d[1], 50, 0) + cask('m', d[0], d[2], 50, 0));
            String call = d[3] + " of " + d[1] + " to " + d[2] + " of " + d[0];
            T.due(call, x.pour(0, 1, d[3]), d[4] == 0 ? 50 : d[4]);
            T.due(call + ": there", x.cask(0, 2), d[4] == 0 ? d[1] - d[3] : d[1]);
            T.due(call + ": here", x.cask(1, 2), d[4] == 0 ? d[2] + d[3] : d[2]);
            String told = cask('o', d[0], d[1], 50, 0) + cask('m', d[0], d[2], 50, 0) + "p01" + digits(d[3], 3) + ";";
            T.due(told, town(told), d[4] == 0 ? 3 : -2024);
        }
    }

    private static void pouredStrengths() {
        T.part("POURED: STRENGTH of the other is both STRENGTHS by AMOUNTS together, by all of it, cut");
        int[][] due = {{1, 99, 1, 0, 49}, {1, 0, 1, 99, 49}, {1, 99, 99, 98, 98}, {99, 99, 1, 98, 98}, {100, 99, 0, 0, 99},
            {100, 0, 0, 99, 0}, {200, 99, 200, 99, 99}, {200, 0, 200, 0, 0}, {2, 50, 1, 51, 50}, {1, 50, 2, 51, 50}, {399, 99, 1, 0, 98}};
        for (int[] d : due) {
            TheAngelsWantMore x = Due.townOf(cask('o', 400, d[0], d[1], 0) + cask('m', 400, d[2], d[3], 0));
            String call = d[0] + " of " + d[1] + " to " + d[2] + " of " + d[3];
            T.due(call, x.pour(0, 1, d[0]), d[4]);
            T.due(call + ": strength here", x.cask(1, 3), d[4]);
            T.due(call + ": strength there stays", x.cask(0, 3), d[1]);
            T.due(call + ": nothing is taken", x.count(6), 0);
        }
    }
}
