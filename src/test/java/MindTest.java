/** Promises 10 to 17: what is thought of years to come, of one cask and of all. */
public final class MindTest {
    private static final Due T = new Due();
    private static final String OAK = "co100100500;";

    public static void main(String[] args) {
        behind();
        allBehind();
        theirs();
        theirsRefused();
        excise();
        exciseIn();
        low();
        turns();
        hum();
        nothingChanges();
        whatWasThoughtIsForgotten();
        T.end();
    }

    private static void behind() {
        T.part("10 behind");
        TheAngelsWantMore x = Due.townOf(OAK + "cm100100039;");
        int[][] due = {{100, 50, 0}, {72, 50, 28}, {70, 0, 30}};
        for (int what = 0; what < 3; what++) {
            T.due("behind(0, 0, " + what + ")", x.behind(0, 0, what), due[0][what]);
            T.due("behind(0, 7, " + what + ")", x.behind(0, 7, what), due[1][what]);
            T.due("behind(1, 7, " + what + ")", x.behind(1, 7, what), due[2][what]);
        }
        T.due("behind(-1, -1, -1)", x.behind(-1, -1, -1), -1);
        T.due("behind(2, 201, 3)", x.behind(2, 201, 3), -1);
        T.due("behind(0, -1, 3)", x.behind(0, -1, 3), -4);
        T.due("behind(0, 201, 3)", x.behind(0, 201, 3), -6);
        T.due("behind(0, 200, 3)", x.behind(0, 200, 3), -2);
        T.due("behind(0, 0, -1)", x.behind(0, 0, -1), -2);
        T.due("behind(least, 0, 0)", x.behind(Integer.MIN_VALUE, 0, 0), -1);
        T.due("behind(0, greatest, 0)", x.behind(0, Integer.MAX_VALUE, 0), -6);
        T.due("behind(0, 0, greatest)", x.behind(0, 0, Integer.MAX_VALUE), -2);
        for (int i = 1; i <= 16; i++) {
            x.years(60);
        }
        x.years(39);
        // In thought the year passes 999: 1000 is a Lent (4), 1001 one that 7 divides.
        x.fill(0, 100);
        int was = x.cask(0, 5);
        T.due("behind(0, 1, 0) in year 999", x.behind(0, 1, 0), 80);
        T.due("behind(0, 2, 0) in year 999", x.behind(0, 2, 0), 100 - 28 + Math.min(28, (was + 28) / 2));
        T.due("behind(0, 200, 0)", x.behind(0, 200, 0) >= 0 ? 1 : 0, 1);
    }

    private static void allBehind() {
        T.part("11 allBehind");
        TheAngelsWantMore x = Due.townOf(OAK + "ci100085500;" + "cm100100039;");
        T.due("allBehind(0, 0)", x.allBehind(0, 0), 285);
        T.due("allBehind(0, 1)", x.allBehind(0, 1), 0);
        T.due("allBehind(0, 2), of several the least", x.allBehind(0, 2), 0);
        T.due("allBehind(1, 2)", x.allBehind(1, 2), 2);
        T.due("allBehind(7, 0)", x.allBehind(7, 0), 72 + 85 + 70);
        T.due("allBehind(7, 1)", x.allBehind(7, 1), 28 + 30);
        T.due("allBehind(7, 2)", x.allBehind(7, 2), 1);
        T.due("allBehind(-1, 3)", x.allBehind(-1, 3), -4);
        T.due("allBehind(201, 3)", x.allBehind(201, 3), -6);
        T.due("allBehind(200, 3)", x.allBehind(200, 3), -2);
        T.due("allBehind(0, -1)", x.allBehind(0, -1), -2);
        T.due("allBehind(greatest, 0)", x.allBehind(Integer.MAX_VALUE, 0), -6);
        T.due("all empty", Due.townOf("co100000500;co100000500;").allBehind(3, 2), 0);
        TheAngelsWantMore none = new TheAngelsWantMore();
        T.due("none", none.allBehind(3, 0), 0);
        T.due("none", none.allBehind(3, 1), 0);
        T.due("none", none.allBehind(3, 2), -9);
    }

    private static void fraction(String name, TheAngelsWantMore x, int cask, int n, long above, long below) {
        T.due(name + " above", x.theirs(cask, n, 0), above);
        T.due(name + " below", x.theirs(cask, n, 1), below);
    }

    private static void theirs() {
        T.part("12 theirs");
        TheAngelsWantMore x = Due.townOf(OAK + "cm100100039;cs100020502;");
        fraction("none taken", x, 0, 0, 0, 1);
        fraction("10 of 100", x, 0, 1, 1, 10);
        fraction("28 of 100", x, 0, 7, 7, 25);
        fraction("19 of 100", x, 0, 2, 19, 100);
        fraction("all of 20", x, 2, 10, 1, 1);
        fraction("all of all", x, -1, 1, (10 + 5 + 4) / 1, 220);
        // 28, 30 and 14 of 220
        fraction("of all", x, -1, 7, 18, 55);
        fraction("nothing", Due.townOf("co100000500;"), 0, 9, 0, 1);
        fraction("nothing of all", Due.townOf("co100000500;"), -1, 9, 0, 1);
        fraction("no casks", new TheAngelsWantMore(), -1, 9, 0, 1);
        x.years(7);
        fraction("28 of 100 now", x, 0, 0, 7, 25);
    }

    private static void theirsRefused() {
        T.part("12 theirs, refused");
        TheAngelsWantMore x = Due.townOf(OAK);
        T.due("theirs(-2, -1, -1)", x.theirs(-2, -1, -1), Due.refused(-1));
        T.due("theirs(1, 201, 2)", x.theirs(1, 201, 2), Due.refused(-1));
        T.due("theirs(least, 0, 0)", x.theirs(Integer.MIN_VALUE, 0, 0), Due.refused(-1));
        T.due("theirs(greatest, 0, 0)", x.theirs(Integer.MAX_VALUE, 0, 0), Due.refused(-1));
        T.due("theirs(0, -1, 2)", x.theirs(0, -1, 2), Due.refused(-4));
        T.due("theirs(-1, -1, 2)", x.theirs(-1, -1, 2), Due.refused(-4));
        T.due("theirs(0, 201, 2)", x.theirs(0, 201, 2), Due.refused(-6));
        T.due("theirs(0, 200, 2)", x.theirs(0, 200, 2), Due.refused(-2));
        T.due("theirs(0, 200, -1)", x.theirs(0, 200, -1), Due.refused(-2));
        T.due("-1 as told", Due.refused(-1), 4000000000000000001L);
        T.due("count(11)", x.count(11), 4);
        T.due("count(12)", x.count(12), 2);
        T.due("count(14)", x.count(14), 2);
        T.due("count(16)", x.count(16), 1);
    }

    private static void excise() {
        T.part("13 excise");
        TheAngelsWantMore x = Due.townOf("co100099500;co100019500;ci100009500;");
        T.due("excise(0)", x.excise(0), 18);
        T.due("excise(1)", x.excise(1), 2);
        T.due("excise(2)", x.excise(2), 0);
        T.due("excise(-1)", x.excise(-1), 20);
        x.set(2, 9);
        T.due("excise(0) of 9", x.excise(0), 81);
        T.due("excise(-1) of 9", x.excise(-1), 90);
        x.set(2, 0);
        T.due("excise(0) of 0", x.excise(0), 0);
        x.set(2, 1);
        x.years(1);
        T.due("amount", x.cask(0, 2), 90);
        T.due("what is not there too", x.excise(0), 9);
        x.fill(0, 91);
        T.due("91 and 9", x.excise(0), 10);
        x.fill(0, 0);
        T.due("0 and 9", x.excise(0), 0);
        T.due("excise(-2)", x.excise(-2), -1);
        T.due("excise(3)", x.excise(3), -1);
        T.due("excise(least)", x.excise(Integer.MIN_VALUE), -1);
        T.due("excise(greatest)", x.excise(Integer.MAX_VALUE), -1);
        T.due("no casks", new TheAngelsWantMore().excise(-1), 0);
    }

    private static void exciseIn() {
        T.part("14 exciseIn");
        TheAngelsWantMore x = Due.townOf("co100099500;co100019500;ci100009500;");
        T.due("exciseIn(0)", x.exciseIn(0), 0);
        T.due("exciseIn(1)", x.exciseIn(1), 20);
        T.due("exciseIn(7)", x.exciseIn(7), 140);
        T.due("exciseIn(200)", x.exciseIn(200), 4000);
        T.due("exciseIn(-1)", x.exciseIn(-1), -4);
        T.due("exciseIn(201)", x.exciseIn(201), -6);
        T.due("exciseIn(least)", x.exciseIn(Integer.MIN_VALUE), -4);
        x.years(3);
        x.set(2, 5);
        T.due("exciseIn(2) of 5", x.exciseIn(2), 100);
    }

    private static void low() {
        T.part("15 low");
        TheAngelsWantMore x = Due.townOf(OAK + "ci100100500;co100000500;");
        // 100, 90, 81, 73, 59, 54, 49, 72, 58
        T.due("low(0, 400)", x.low(0, 400), 0);
        T.due("low(0, 100)", x.low(0, 100), 0);
        T.due("low(0, 99)", x.low(0, 99), 1);
        T.due("low(0, 90)", x.low(0, 90), 1);
        T.due("low(0, 89)", x.low(0, 89), 2);
        T.due("low(0, 59)", x.low(0, 59), 4);
        T.due("low(0, 49)", x.low(0, 49), 6);
        T.due("low(0, 0), it never is", x.low(0, 0), -9);
        T.due("low(1, 99)", x.low(1, 99), -9);
        T.due("low(2, 0)", x.low(2, 0), 0);
        T.due("low(3, -1)", x.low(3, -1), -1);
        T.due("low(-1, 401)", x.low(-1, 401), -1);
        T.due("low(0, -1)", x.low(0, -1), -4);
        T.due("low(0, 401)", x.low(0, 401), -6);
        x.years(6);
        T.due("low(0, 49) in year 6", x.low(0, 49), 0);
        T.due("low(0, 48) in year 6", x.low(0, 48) > 2 ? 1 : 0, 1);
        theLastYear();
    }

    /** Of 199 with rate 1 the monks' angels take 1 in each Lent alone: the 23rd from year 7 on is the 200th year. */
    private static void theLastYear() {
        T.part("15 low, the last year");
        TheAngelsWantMore x = Due.townOf("r01;l9;y07;cm400199500;");
        T.due("low(0, 177)", x.low(0, 177), 191);
        T.due("low(0, 176)", x.low(0, 176), 200);
        T.due("low(0, 175)", x.low(0, 175), -9);
        T.due("low(0, 176) from year 6 on", Due.townOf("r01;l9;y06;cm400199500;").low(0, 176), -9);
    }

    private static void turns() {
        T.part("16 turns");
        T.due("oak", Due.townOf(OAK).turns(), 7);
        T.due("oak in year 6", Due.townOf(OAK + "y06;").turns(), 1);
        T.due("oak in year 7", Due.townOf(OAK + "y07;").turns(), 7);
        T.due("iron", Due.townOf("ci100100500;").turns(), -9);
        T.due("monks", Due.townOf("cm100100500;").turns(), -9);
        T.due("humming", Due.townOf("ch100100500;").turns(), -9);
        T.due("none", new TheAngelsWantMore().turns(), -9);
        // Of 381 they take 3 in year 7, as much as comes back; of 298 in year 35 they take 2.
        T.due("as much", Due.townOf("r01;l9;cb400400503;").turns(), 35);
        T.due("one more", Due.townOf("r01;l9;cb400400504;").turns(), 7);
        T.due("as much, from year 7 on", Due.townOf("r01;l9;cb400400503;y07;").turns(), 28);
        // What one gets the others lose: oak gets 27 back less 4; of 390 the monks lose 14 and more.
        T.due("of all together", Due.townOf(OAK + "cm400390500;").turns(), 7);
        T.due("of all together", Due.townOf(OAK + "cm400390500;cm400390500;").turns() > 7 ? 1 : 0, 1);
        // No more than there is room for: half of 61 would be more than the 10 they take, but 10 have room. In year 14 they
        // take 4 of 44, and 55 of 111 come back.
        TheAngelsWantMore x = Due.townOf(OAK + "y06;");
        x.fill(0, 100);
        T.due("full", x.turns(), 8);
        x.fill(0, 99);
        T.due("nearly full", x.turns(), 1);
        theLastYearOfTurning();
    }

    /**
     * A brandy sends 1 back each 7th year, of monks' 127 they take 1 in each Lent, and of their 99 nothing: from year 3
     * on that is in the 200th year.
     */
    private static void theLastYearOfTurning() {
        T.part("16 turns, the last year");
        for (int year = 2; year <= 3; year++) {
            TheAngelsWantMore x = Due.townOf("cb100100001;cm400000500;r40;y01;r01;l7;");
            x.years(year - 1);
            x.fill(0, 0);
            x.fill(1, 127);
            T.due("turns() from year " + year + " on", x.turns(), year == 3 ? 200 : -9);
        }
    }

    private static void hum() {
        T.part("17 hum");
        // 54 and 46, then 49 and 51
        T.due("oak", Due.townOf(OAK).hum(0), 6);
        T.due("sherry, just half in year 3", Due.townOf("cs100020502;").hum(0), 3);
        T.due("sherry, from year 2 on", Due.townOf("cs100020502;y02;").hum(0), 1);
        T.due("sherry, half now", Due.townOf("cs100020502;y03;").hum(0), 0);
        T.due("all of 1", Due.townOf("cs100001501;").hum(0), 1);
        T.due("all of 1 by now", Due.townOf("cs100001501;y01;").hum(0), 0);
        T.due("1 of 2", Due.townOf("cs100002501;").hum(0), 1);
        T.due("iron", Due.townOf("ci100100500;").hum(0), -9);
        T.due("nothing", Due.townOf("co100000500;").hum(0), -9);
        T.due("without a rate", Due.townOf("r00;co100100500;").hum(0), -9);
        TheAngelsWantMore x = Due.townOf("ci100100500;cs100020502;");
        T.due("hum(1)", x.hum(1), 3);
        T.due("hum(-1)", x.hum(-1), -1);
        T.due("hum(2)", x.hum(2), -1);
        T.due("hum(least)", x.hum(Integer.MIN_VALUE), -1);
        T.due("hum(greatest)", x.hum(Integer.MAX_VALUE), -1);
        for (int year = 6; year <= 7; year++) {
            // 80 taken in year 1; then 1 in each Lent from 126 on, so that both are 103 in the 200th year from year 7.
            TheAngelsWantMore slow = Due.townOf("r40;l9;cm400400500;y01;r01;");
            slow.fill(0, 0);
            slow.years(year - 1);
            slow.fill(0, 126);
            T.due("taken", slow.cask(0, 5), 80);
            T.due("hum(0) from year " + year + " on", slow.hum(0), year == 7 ? 200 : -9);
        }
    }

    /** A town with a fault leaves no cask behind, and what came since the last thought is thought of in the next. */
    private static void whatWasThoughtIsForgotten() {
        T.part("10 to 17, what was thought is forgotten");
        TheAngelsWantMore x = new TheAngelsWantMore();
        T.due("a fault behind casks", Due.town(x, OAK + OAK + "r39;l1;y09;l0;"), -2035);
        x.allBehind(0, 0);
        T.due("a fault behind casks", Due.town(x, OAK + OAK + "r39;l1;y09;l0;"), -2035);
        T.due("takes", x.takes(0, 100, 10), -1);
        T.due("behind", x.behind(0, 1, 0), -1);
        T.due("a fault behind casks", Due.town(x, OAK + OAK + "r39;l1;y09;l0;"), -2035);
        T.due("low", x.low(0, 400), -1);
        T.due("hum", x.hum(0), -1);
        T.due("pourFor", x.pourFor(0, 50), -1);
        T.due("blend", x.blend(50), -9);
        T.due("spread", x.spread(), -9);
        T.due("sell", x.sell(0), -9);
        T.due("a fault behind casks", Due.town(x, OAK + OAK + "r39;l1;y09;l0;"), -2035);
        T.due("iron", x.iron(1), -9);
        T.due("a fault behind casks", Due.town(x, OAK + OAK + "r39;l1;y09;l0;"), -2035);
        T.due("layDown", x.layDown(1), -9);
        T.due("a fault behind casks", Due.town(x, OAK + OAK + "r39;l1;y09;l0;"), -2035);
        T.due("which", x.which(0, 0), -1);
        T.due("judge", x.judge(0), -1);
        T.due("chance", x.chance(0, 0, 0, 2, 0), Due.refused(-1));
        T.due("theirs", x.theirs(0, 0, 0), Due.refused(-1));
        T.due("excise", x.excise(0), -1);
        T.due("a cask", Due.town(x, "ch100100200;r40;l9;"), 3);
        T.due("takes", x.takes(0, 39, 10), 3);
        x.years(1);
        T.due("takes, 40 taken", x.takes(0, 39, 10), 6);
        x.fill(0, 7);
        T.due("behind", x.behind(0, 0, 0), 7);
        T.due("a fault behind a rate", Due.town(x, "r10;l1;y09;l0;"), -2011);
        T.due("turns", x.turns(), -9);
        T.due("treaty", x.treaty(1), 10);
        T.due("chance, rate 40", x.chance(0, 3, 1, 2, 0), 1);
    }

    private static void nothingChanges() {
        T.part("10 to 17, nothing changes");
        TheAngelsWantMore x = Due.townOf(OAK + "cm100100039;cs100020502;ch100100500;y03;");
        x.row(7);
        x.letter('c');
        String was = Due.wholeState(x);
        x.behind(0, 50, 0);
        x.allBehind(50, 2);
        x.theirs(-1, 50, 0);
        x.excise(-1);
        x.exciseIn(50);
        x.low(0, 3);
        x.turns();
        x.hum(1);
        x.pourFor(2, 50);
        x.blend(50);
        x.spread();
        x.layDown(50);
        x.sell(50);
        x.treaty(50);
        x.bestSet(50, 0);
        x.bestSet(50, 1);
        x.iron(50);
        x.which(0, 0);
        x.which(0, 1);
        x.chance(0, 50, 5, 3, 0);
        x.lots(5, 5, 0);
        x.image();
        T.due("as it was", was.equals(Due.wholeState(x)) ? 1 : 0, 1);
    }
}
