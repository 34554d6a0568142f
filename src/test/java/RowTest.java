/** Promises 26 to 28: the row, which kind and which rates it fits, and whether a cask is as it says. */
public final class RowTest {
    private static final Due T = new Due();

    public static void main(String[] args) {
        row();
        whichKinds();
        whichRates();
        whichRefused();
        judge();
        T.end();
    }

    private static void row() {
        T.part("26 row");
        TheAngelsWantMore x = new TheAngelsWantMore();
        T.due("row(0)", x.row(0), 1);
        T.due("row(99)", x.row(99), 2);
        T.due("row(-1)", x.row(-1), -4);
        T.due("row(100)", x.row(100), -6);
        T.due("row(least)", x.row(Integer.MIN_VALUE), -4);
        T.due("row(greatest)", x.row(Integer.MAX_VALUE), -6);
        T.due("count(7)", x.count(7), 2);
        for (int i = 3; i <= 12; i++) {
            T.due("row " + i, x.row(i), i);
        }
        T.due("row 13", x.row(5), -6);
        T.due("row 13 below 0", x.row(-1), -4);
        T.due("row 13 above 99", x.row(100), -6);
        T.due("count(7)", x.count(7), 12);
        T.due("count(14)", x.count(14), 3);
        T.due("count(16)", x.count(16), 4);
    }

    private static void kinds(String town, int due, int... row) {
        TheAngelsWantMore x = Due.townOf(town);
        Due.row(x, row);
        T.due("kinds of " + town, x.which(0, 0), due);
        T.due("kinds of " + town + " again", x.which(0, 0), due);
        T.due("the row stays", x.count(7), row.length);
    }

    private static void whichKinds() {
        T.part("27 which, kinds");
        kinds("co100100500;", 63);
        kinds("co100100500;", 63, 99);
        kinds("co100100500;", 0, 98);
        kinds("co100099500;", 63, 99);
        kinds("co100098500;", 63, 98);
        // Without a figure brandy, sherry and humming lose what oak does.
        kinds("ci100100500;", 1 + 4 + 16 + 32, 99, 90, 81, 73, 59);
        kinds("co100100500;", 2, 99, 95, 91, 87);
        kinds("co100100500;", 8, 99, 99);
        kinds("co100100500;", 8, 99, 99, 99, 99, 99, 99, 99, 99, 99, 99, 99, 99);
        kinds("co100100502;", 16, 99, 88);
        kinds("co100100502;", 1 + 4 + 32, 99, 90);
        kinds("co100100500;", 0, 99, 90, 82);
        // Oak alone has half of it back in year 7; humming takes twice as much once more is taken than there.
        kinds("co100100500;", 1, 99, 90, 81, 73, 59, 54, 49, 72);
        kinds("co100100500;", 4, 99, 90, 81, 73, 59, 54, 49, 45);
        kinds("co100100509;", 4, 99, 90, 81, 73, 59, 54, 49, 54);
        kinds("co100100500;", 16, 99, 90, 81, 73, 59, 54, 49, 63);
        kinds("co100100500;", 32, 99, 90, 81, 73, 59, 54, 49, 41);
        // Year, Lent and what is taken are as now: year 7 is the next, and 51 are taken.
        kinds("co100100500;y06;", 1, 49, 72);
        kinds("co100100500;l1;", 1 + 4 + 16 + 32, 99, 80, 64);
        TheAngelsWantMore x = Due.townOf("ci100100500;co100050500;");
        Due.row(x, 50, 45);
        T.due("which(0, 0)", x.which(0, 0), 0);
        T.due("which(1, 0)", x.which(1, 0), 1 + 4 + 16 + 32);
        T.due("kind stays", x.cask(1, 0), 0);
    }

    private static void rates(String town, int due, int... row) {
        TheAngelsWantMore x = Due.townOf(town);
        Due.row(x, row);
        T.due("rates of " + town, x.which(0, 1), due);
        T.due("the row stays", x.count(7), row.length);
        T.due("rate stays", x.count(2), 10);
    }

    private static void whichRates() {
        T.part("27 which, rates");
        rates("co100100500;", 41);
        rates("co100100500;", 41, 99);
        rates("co100100500;", 0, 98);
        rates("co100100500;", 1, 99, 90);
        // 99 stands for 100 and for 99: rates 0 and 1.
        rates("co100100500;", 2, 99, 99);
        rates("co100100500;", 1, 99, 99, 99, 99, 99);
        rates("co100100500;", 1, 99, 99, 99, 99, 98);
        rates("co100100500;", 1, 99, 60);
        rates("co100100500;", 0, 99, 59);
        rates("ci100100500;", 41, 99, 99);
        rates("cm100100500;", 2, 99, 95);
        // Of 4 they take 0 up to 24, 1 from 25 on.
        rates("co100004500;", 25, 4, 4);
        rates("co100004500;", 16, 4, 3);
        rates("co100004500;l1;", 13, 4, 4);
        rates("co100004500;l1;", 12, 4, 3);
        rates("co100004500;l1;", 13, 4, 2);
        rates("co100004500;l1;", 3, 4, 1);
    }

    private static void whichRefused() {
        T.part("27 which, refused");
        TheAngelsWantMore x = Due.townOf("co100100500;");
        x.row(99);
        T.due("which(1, 2)", x.which(1, 2), -1);
        T.due("which(-1, -1)", x.which(-1, -1), -1);
        T.due("which(0, 2)", x.which(0, 2), -2);
        T.due("which(0, -1)", x.which(0, -1), -2);
        T.due("which(least, 0)", x.which(Integer.MIN_VALUE, 0), -1);
        T.due("which(0, greatest)", x.which(0, Integer.MAX_VALUE), -2);
        T.due("the row stays", x.count(7), 1);
    }

    private static void judged(String town, int due, int... row) {
        TheAngelsWantMore x = Due.townOf(town);
        Due.row(x, row);
        T.due("judge of " + town, x.judge(0), due);
        T.due("the row has none then", x.count(7), 0);
        T.due("a new row", x.row(5), 1);
    }

    private static void judge() {
        T.part("28 judge");
        judged("co100100500;", -9);
        judged("co100100500;", -9, 99, 90, 81, 73, 59, 54, 49, 72);
        judged("co100100500;", 0, 98, 90);
        judged("co100100500;", 1, 99, 91, 81);
        judged("co100100500;", 2, 99, 90, 80, 73, 58);
        judged("co100100500;", 7, 99, 90, 81, 73, 59, 54, 49, 45);
        judged("co400400500;", -9, 99, 99, 99);
        judged("ci400400500;", 11, 99, 99, 99, 99, 99, 99, 99, 99, 99, 99, 99, 98);
        judged("co100099500;", -9, 99, 90);
        judged("co100098500;", 0, 99, 90);
        TheAngelsWantMore x = Due.townOf("co100100500;cm100100500;");
        Due.row(x, 99, 95);
        T.due("judge(2)", x.judge(2), -1);
        T.due("judge(-1)", x.judge(-1), -1);
        T.due("judge(least)", x.judge(Integer.MIN_VALUE), -1);
        T.due("judge(greatest)", x.judge(Integer.MAX_VALUE), -1);
        T.due("the row stays", x.count(7), 2);
        T.due("judge(1)", x.judge(1), -9);
        T.due("judge(1) of no row", x.judge(1), -9);
        Due.row(x, 99, 95);
        T.due("judge(0)", x.judge(0), 1);
        T.due("amount", x.cask(0, 2), 100);
    }
}
