/** Promises 23 to 25: the treaty both keep, the best rate and Lent, and which cask should be iron. */
public final class TreatyTest {
    private static final Due T = new Due();

    public static void main(String[] args) {
        treaty();
        treatyNeitherPairKept();
        treatyRefused();
        bestRate();
        bestLent();
        bestSetRefused();
        iron();
        ironRefused();
        T.end();
    }

    private static void treaty() {
        T.part("23 treaty");
        TheAngelsWantMore x = Due.townOf("co100100500;");
        T.due("treaty(0), all the same", x.treaty(0), 0);
        // No Lent in year 1: the angels take 10 rather than 5.
        T.due("treaty(1)", x.treaty(1), 0);
        // Lent 8: 81 and 19; Lent 2: 72 and 28; the town has more with 8, the angels with all of their rate.
        T.due("treaty(2)", x.treaty(2), 10);
        T.due("rate stays", x.count(2), 10);
        T.due("lent stays", x.count(3), 4);
        // Amounts and taken behind 14 years by the pairs: 5 0, 4 1, 3 2, 4 1.
        T.due("treaty(14), 1", Due.townOf("r24;cb100005503;").treaty(14), 1);
        // Behind 7 years: 11 2, 6 7, 13 0, 8 5.
        T.due("treaty(7), 11", Due.townOf("r24;cb100013509;").treaty(7), 11);
        T.due("iron", Due.townOf("ci100100500;").treaty(200), 0);
        T.due("none", new TheAngelsWantMore().treaty(200), 0);
        T.due("without a rate", Due.townOf("r00;co100100500;").treaty(9), 0);
        // Half of rate 1 is 0, cut.
        T.due("rate 1", Due.townOf("r01;co100100500;").treaty(1), 0);
        T.due("rate 1, in a Lent", Due.townOf("r01;co100100500;y01;").treaty(1), 10);
        // Half of rate 3 is 1, cut: in Lents that takes nothing of 26. By 2 the angels would have 2, rather than 1 by 3.
        T.due("rate 3", Due.townOf("r03;cb100026503;").treaty(8), 0);
        // Year 8 is a Lent by either; behind it only the angels' choice counts.
        T.due("year 8", Due.townOf("co100100500;y07;").treaty(1), 0);
    }

    private static void treatyNeitherPairKept() {
        T.part("23 treaty, -9");
        // Behind 7 years: 11 0, 9 2, 9 2, 11 0: the town wants the first and last, the angels the others.
        T.due("treaty(7)", Due.townOf("r10;cb100011505;").treaty(7), -9);
    }

    private static void treatyRefused() {
        T.part("23 treaty, refused");
        TheAngelsWantMore x = Due.townOf("co100100500;");
        T.due("treaty(-1)", x.treaty(-1), -4);
        T.due("treaty(201)", x.treaty(201), -6);
        T.due("treaty(least)", x.treaty(Integer.MIN_VALUE), -4);
        T.due("treaty(greatest)", x.treaty(Integer.MAX_VALUE), -6);
        T.due("count(14)", x.count(14), 2);
        T.due("count(16)", x.count(16), 2);
    }

    private static void bestRate() {
        T.part("24 bestSet, rate");
        T.due("bestSet(0, 0)", Due.townOf("co100100500;").bestSet(0, 0), 0);
        T.due("bestSet(1, 0)", Due.townOf("co100100500;").bestSet(1, 0), 40);
        T.due("1 of 4 from rate 25 on", Due.townOf("co100004500;").bestSet(1, 0), 25);
        T.due("3 of 4 in a Lent from rate 38 on", Due.townOf("co100004500;l1;").bestSet(1, 0), 38);
        T.due("nothing of 2", Due.townOf("co100002500;").bestSet(1, 0), 0);
        T.due("iron", Due.townOf("ci100100500;").bestSet(200, 0), 0);
        T.due("none", new TheAngelsWantMore().bestSet(200, 0), 0);
        // In year 7: 8 taken of 10 stay, from 9 on 9 come back. Of 10 in one year: 8 from 80 on, in a Lent.
        T.due("brandy", Due.townOf("y06;l7;cb100010509;").bestSet(1, 0), 40);
        T.due("brandy, 7 at the most", Due.townOf("y06;l7;cb100010508;").bestSet(1, 0), 35);
        // Of both together: 25 takes 1 of each.
        T.due("of all", Due.townOf("co100004500;co100004500;").bestSet(1, 0), 25);
    }

    private static void bestLent() {
        T.part("24 bestSet, lent");
        TheAngelsWantMore x = Due.townOf("co100100500;");
        T.due("bestSet(0, 1)", x.bestSet(0, 1), 1);
        T.due("bestSet(2, 1)", x.bestSet(2, 1), 1);
        // Taken by Lent 1 .. 9 behind 7 years with rate 12: 0, 7, 6, 5, 6, 6, 6, 5, 5.
        T.due("brandy", Due.townOf("r12;cb100013509;").bestSet(7, 1), 2);
        T.due("iron", Due.townOf("ci100100500;").bestSet(200, 1), 1);
        T.due("none", new TheAngelsWantMore().bestSet(200, 1), 1);
        // In year 7 a Lent that takes 8 of 10 gives 8 back: all but 1 and 7 leave 4.
        T.due("brandy in year 7", Due.townOf("y06;r40;cb100010508;").bestSet(1, 1), 2);
        T.due("lent stays", x.count(3), 4);
        T.due("rate stays", x.count(2), 10);
    }

    private static void bestSetRefused() {
        T.part("24 bestSet, refused");
        TheAngelsWantMore x = Due.townOf("co100100500;");
        T.due("bestSet(-1, 2)", x.bestSet(-1, 2), -4);
        T.due("bestSet(201, 2)", x.bestSet(201, 2), -6);
        T.due("bestSet(200, 2)", x.bestSet(200, 2), -2);
        T.due("bestSet(200, -1)", x.bestSet(200, -1), -2);
        T.due("bestSet(least, least)", x.bestSet(Integer.MIN_VALUE, Integer.MIN_VALUE), -4);
        T.due("bestSet(greatest, 0)", x.bestSet(Integer.MAX_VALUE, 0), -6);
        T.due("bestSet(0, greatest)", x.bestSet(0, Integer.MAX_VALUE), -2);
    }

    private static void iron() {
        T.part("25 iron");
        T.due("iron(1), 145 rather than 140", Due.townOf("co100100500;co100050500;").iron(1), 0);
        T.due("iron(1), 140 and 145", Due.townOf("co100050500;co100100500;").iron(1), 1);
        T.due("of several the least", Due.townOf("ci100100500;co100050500;co100050500;").iron(1), 1);
        T.due("nothing is taken yet", Due.townOf("co100100500;").iron(0), -9);
        T.due("iron already", Due.townOf("ci100100500;").iron(200), -9);
        T.due("less than now so", Due.townOf("co100100500;y06;").iron(1), -9);
        T.due("as much as now so", Due.townOf("co100009500;").iron(1), -9);
        T.due("one of them less", Due.townOf("co100100500;y06;cm100100500;").iron(1), 1);
        TheAngelsWantMore x = Due.townOf("co100100500;");
        T.due("iron(1)", x.iron(1), 0);
        T.due("kind stays", x.cask(0, 0), 0);
        T.due("none", new TheAngelsWantMore().iron(9), -9);
    }

    private static void ironRefused() {
        T.part("25 iron, refused");
        TheAngelsWantMore x = Due.townOf("co100100500;");
        T.due("iron(-1)", x.iron(-1), -4);
        T.due("iron(201)", x.iron(201), -6);
        T.due("iron(200)", x.iron(200) >= -9 ? 1 : 0, 1);
        T.due("iron(least)", x.iron(Integer.MIN_VALUE), -4);
        T.due("iron(greatest)", x.iron(Integer.MAX_VALUE), -6);
    }
}
