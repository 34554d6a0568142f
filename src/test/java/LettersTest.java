/** Promises 1 to 3: a new object, its letters, and the town that they tell. */
public final class LettersTest {
    private static final Due T = new Due();

    public static void main(String[] args) {
        aNewObject();
        letter();
        townOfEachStatement();
        faultsOfTheFirstKind();
        faultsOfTheSecondKind();
        yearsInATown();
        pourInATown();
        roomForCasks();
        aTownAheadOfAnother();
        nothingComesWithAFault();
        T.end();
    }

    private static void aNewObject() {
        T.part("1 a new object");
        TheAngelsWantMore x = new TheAngelsWantMore();
        int[] first = {0, 0, 10, 4, 2, 0, 0, 0, 0, -9, -9, 0, 0, 0, 0, 0, 0, -9};
        for (int what = 0; what < first.length; what++) {
            T.due("count(" + what + ")", x.count(what), first[what]);
        }
        T.due("cask(0, 0)", x.cask(0, 0), -1);
        T.due("on()", x.on(), -3);
        T.due("years(1)", x.years(1), 1);
        T.due("count(1) of another", new TheAngelsWantMore().count(1), 0);
    }

    private static void letter() {
        T.part("2 letter");
        TheAngelsWantMore x = new TheAngelsWantMore();
        T.due("letter(0)", x.letter(0), 1);
        T.due("letter(255)", x.letter(255), 2);
        T.due("letter(-1)", x.letter(-1), -4);
        T.due("letter(256)", x.letter(256), -6);
        T.due("letter(least int)", x.letter(Integer.MIN_VALUE), -4);
        T.due("letter(greatest int)", x.letter(Integer.MAX_VALUE), -6);
        T.due("count(8)", x.count(8), 2);
        for (int i = 3; i <= 96; i++) {
            T.due("letter " + i, x.letter('c'), i);
        }
        T.due("letter 97", x.letter('c'), -6);
        T.due("letter 97 below 0", x.letter(-1), -4);
        T.due("letter 97 above 255", x.letter(256), -6);
        T.due("count(8)", x.count(8), 96);
        T.due("count(14)", x.count(14), 3);
        T.due("count(16)", x.count(16), 4);
        T.due("town()", x.town(), -1000);
        T.due("count(8) behind town", x.count(8), 0);
        T.due("letter behind town", x.letter('c'), 1);
    }

    private static void townOfEachStatement() {
        T.part("3 town");
        String kinds = "ombish";
        for (int kind = 0; kind < 6; kind++) {
            TheAngelsWantMore x = new TheAngelsWantMore();
            T.due("town of a cask", Due.town(x, "c" + kinds.charAt(kind) + "321089075;"), 1);
            int[] due = {kind, 321, 89, 7, 5, 0};
            for (int what = 0; what < 6; what++) {
                T.due("cask(0, " + what + ")", x.cask(0, what), due[what]);
            }
        }
        TheAngelsWantMore x = new TheAngelsWantMore();
        T.due("town of choices", Due.town(x, "r37;l9;e7;y60;"), 4);
        T.due("rate", x.count(2), 37);
        T.due("lent", x.count(3), 9);
        T.due("excise", x.count(4), 7);
        T.due("year", x.count(1), 60);
        T.due("town of one again and again", Due.town(x, "r01;r02;r00;r40;"), 4);
        T.due("rate", x.count(2), 40);
        T.due("least numbers", Due.town(x, "r00;l1;e0;co001000000;"), 4);
        T.due("rate", x.count(2), 0);
        T.due("lent", x.count(3), 1);
        T.due("excise", x.count(4), 0);
        T.due("size", x.cask(0, 1), 1);
        T.due("greatest numbers", Due.town(x, "r40;l9;e9;ch400400999;"), 4);
        T.due("amount", x.cask(1, 2), 400);
        T.due("strength", x.cask(1, 3), 99);
        T.due("figure", x.cask(1, 4), 9);
        T.due("refusals of the counted", x.count(11) + x.count(12) + x.count(14) + x.count(16), 0);
    }

    /** What a new object answers to the letters of a text; no FAULT is a refusal. */
    private static int town(String text) {
        TheAngelsWantMore x = new TheAngelsWantMore();
        int answer = Due.town(x, text);
        T.due("count of refusals", x.count(11) + x.count(12) + x.count(13) + x.count(14) + x.count(16), 0);
        return answer;
    }

    private static void faultsOfTheFirstKind() {
        T.part("3 town, fault 1");
        T.due("no letters", town(""), -1000);
        String[] statements = {"co400300201;", "cm400300201;", "cb400300201;", "ci400300201;", "cs400300201;",
            "ch400300201;", "r10;", "l4;", "e2;", "p01005;", "y01;"};
        for (String statement : statements) {
            for (int place = 0; place < statement.length(); place++) {
                String ahead = statement.substring(0, place);
                T.due("town of " + ahead, town(ahead), -1000 - place);
                for (char c : new char[] {'x', '/', ':', '0' - 1, '9' + 1, 'C', 0, 255, ' ', ';', 'o', '5'}) {
                    char right = statement.charAt(place);
                    boolean fits = c == right || place > 0 && right >= '0' && right <= '9' && c == '5'
                            || place == 1 && statement.charAt(0) == 'c' && c == 'o';
                    if (!fits) {
                        T.due("town of " + ahead + "(" + (int) c + ")", town(ahead + c + "co"), -1000 - place);
                    }
                }
            }
            T.due("a letter behind " + statement, town(statement + ";"), -1000 - statement.length());
            T.due("half a statement behind " + statement, town(statement + "r1"), -1002 - statement.length());
        }
        for (int c = 0; c < 256; c++) {
            boolean head = "crlepy".indexOf(c) >= 0;
            T.due("letter " + c + " first", town("" + (char) c), head ? -1001 : -1000);
            boolean kind = "ombish".indexOf(c) >= 0;
            T.due("letter " + c + " for a kind", town("c" + (char) c), kind ? -1002 : -1001);
            boolean digit = c >= '0' && c <= '9';
            T.due("letter " + c + " for a digit", town("r" + (char) c), digit ? -1002 : -1001);
        }
        T.due("a fault of both kinds", town("r41;l0;x"), -1007);
        T.due("a fault of both kinds, the end", town("r41;e"), -1005);
        String full = "co100000000;co100000000;co100000000;co100000000;co100000000;co100000000;co100000000;co1000000001";
        T.due("96 letters without the last", full.length(), 96);
        T.due("96 letters, the last no ;", town(full), -1095);
        T.due("96 letters, a town", town(full.substring(0, 84) + "r10;r10;y10;"), 10);
        T.due("96 letters, the end", town(full.substring(0, 84) + "r10;r10;l4;e"), -1096);
    }

    private static void faultsOfTheSecondKind() {
        T.part("3 town, fault 2");
        String[] faults = {"co000000000;", "co401000000;", "co999000000;", "co100101000;", "cm001002000;", "r41;", "r99;",
            "l0;", "y00;", "y61;", "y99;", "p01001;", "p00001;", "p99000;"};
        for (String fault : faults) {
            T.due("town of " + fault, town(fault), -2000);
            T.due("town of r10;" + fault, town("r10;" + fault), -2004);
            T.due("town of r10;l4;" + fault + "l0;", town("r10;l4;" + fault + "l0;"), -2007);
        }
        for (int rate = 0; rate < 100; rate++) {
            T.due("rate " + rate, town("r" + rate / 10 + rate % 10 + ";"), rate <= 40 ? 1 : -2000);
        }
        for (int digit = 0; digit < 10; digit++) {
            T.due("lent " + digit, town("l" + digit + ";"), digit > 0 ? 1 : -2000);
            T.due("excise " + digit, town("e" + digit + ";"), 1);
        }
    }

    private static void yearsInATown() {
        T.part("3 town, years");
        String far = "y60;y60;y60;y60;y60;y60;y60;y60;y60;y60;y60;y60;y60;y60;y60;y60;";
        TheAngelsWantMore x = new TheAngelsWantMore();
        T.due("year 1000", Due.town(x, far + "y40;"), -2064);
        T.due("year", x.count(1), 0);
        T.due("year 999", Due.town(x, far + "y39;"), 17);
        T.due("year", x.count(1), 999);
        T.due("year 1000", Due.town(x, "y01;"), -2000);
        // 100 litres of oak with rate 10, then 20 in the Lent of year 4: 90, 81, 73, 59.
        x = Due.townOf("co100100500;y04;");
        T.due("amount", x.cask(0, 2), 59);
        T.due("taken", x.cask(0, 5), 41);
        // The rate told behind the years does not count for them, the one ahead does.
        x = Due.townOf("r20;co100100500;y01;r40;");
        T.due("amount", x.cask(0, 2), 80);
    }

    private static void pourInATown() {
        T.part("3 town, pour");
        String two = "co100050400;cm100090600;";
        TheAngelsWantMore x = Due.townOf(two + "p01010;");
        T.due("amount 0", x.cask(0, 2), 40);
        T.due("amount 1", x.cask(1, 2), 100);
        T.due("strength 1: (90 * 60 + 10 * 40) / 100", x.cask(1, 3), 58);
        T.due("strength 0", x.cask(0, 3), 40);
        String[] no = {"p01011;", "p10051;", "p00001;", "p11001;", "p02001;", "p20001;", "p01000;", "p01401;"};
        for (String pour : no) {
            T.due(pour, town(two + pour), -2024);
        }
        T.due("a cask told later", town("co100050400;p01005;cm100090600;"), -2012);
        T.due("all of 400", town("co400400100;co400000200;p01400;"), 3);
        T.due("twice as much as there is", town(two + "p10050;p10001;"), -2031);
    }

    private static void roomForCasks() {
        T.part("3 town, room");
        StringBuilder seven = new StringBuilder();
        for (int i = 0; i < 7; i++) {
            seven.append("co10000").append(i).append("500;");
        }
        TheAngelsWantMore x = new TheAngelsWantMore();
        T.due("eight casks", Due.town(x, seven + "co100000500;"), -2084);
        T.due("casks", x.count(0), 0);
        T.due("seven casks", Due.town(x, seven.toString()), 7);
        T.due("amount of the last", x.cask(6, 2), 6);
        T.due("one more", Due.town(x, "co100000500;"), -2000);
        T.due("seventh behind it", x.cask(7, 0), -1);
    }

    private static void aTownAheadOfAnother() {
        T.part("3 town, another town");
        TheAngelsWantMore x = Due.townOf("co100050400;");
        T.due("one cask more", Due.town(x, "cm100090600;p01010;"), 2);
        T.due("casks", x.count(0), 2);
        T.due("amount", x.cask(1, 2), 100);
        x.set(0, 33);
        T.due("choices stay", Due.town(x, "l2;"), 1);
        T.due("rate", x.count(2), 33);
    }

    private static void nothingComesWithAFault() {
        T.part("3 town, nothing with a fault");
        TheAngelsWantMore x = Due.townOf("co100100500;r20;l3;e5;y03;");
        String was = Due.wholeState(x);
        String all = "cs100050403;r07;l7;e7;p01000;";
        T.due("fault at the end", Due.town(x, "cs100050403;r07;l7;e7;p10050;y02;l0;"), -2033);
        T.due("nothing changed", was.equals(Due.wholeState(x)) ? 1 : 0, 1);
        T.due("fault at the end", Due.town(x, all + "?"), -1000 - all.length());
        T.due("nothing changed", was.equals(Due.wholeState(x)) ? 1 : 0, 1);
    }
}
