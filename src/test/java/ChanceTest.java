/** Promises 29 and 30: Lents by chance, and towns by lot. */
public final class ChanceTest {
    private static final Due T = new Due();

    public static void main(String[] args) {
        chance();
        chanceRefused();
        lots();
        lotsRefused();
        T.end();
    }

    private static void fraction(TheAngelsWantMore x, int v, int n, int t, long above, long below) {
        String call = "chance(0, " + v + ", " + n + ", " + t + ") ";
        T.due(call + "above", x.chance(0, v, n, t, 0), above);
        T.due(call + "below", x.chance(0, v, n, t, 1), below);
    }

    private static void chance() {
        T.part("29 chance");
        TheAngelsWantMore x = Due.townOf("co100100500;");
        fraction(x, 100, 0, 2, 1, 1);
        fraction(x, 101, 0, 2, 0, 1);
        fraction(x, 0, 0, 20, 1, 1);
        // 80 in a Lent, else 90
        fraction(x, 80, 1, 2, 1, 1);
        fraction(x, 81, 1, 2, 1, 2);
        fraction(x, 90, 1, 20, 19, 20);
        fraction(x, 91, 1, 2, 0, 1);
        // 64 behind two Lents, 72 behind one, 81 behind none
        fraction(x, 64, 2, 3, 1, 1);
        fraction(x, 65, 2, 3, 8, 9);
        fraction(x, 72, 2, 3, 8, 9);
        fraction(x, 73, 2, 3, 4, 9);
        fraction(x, 82, 2, 3, 0, 1);
        fraction(x, 72, 2, 2, 3, 4);
        fraction(x, 81, 2, 2, 1, 4);
        fraction(x, 65, 2, 4, 15, 16);
        fraction(x, 73, 2, 4, 9, 16);
        // The monks' have 70 behind 8 years without a Lent, and less with one.
        fraction(Due.townOf("cm100100500;"), 70, 8, 20, 16983563041L, 25600000000L);
        fraction(Due.townOf("cm100100500;"), 70, 8, 2, 1, 256);
        fraction(Due.townOf("ci100100500;"), 100, 8, 20, 1, 1);
        fraction(Due.townOf("ci400400500;"), 400, 8, 20, 1, 1);
        // Of 2 the angels take 1 in a Lent with rate 40, else none.
        fraction(Due.townOf("co100002500;r40;"), 2, 1, 2, 1, 2);
        // What is chosen for Lent does not count.
        x.set(1, 1);
        fraction(x, 81, 1, 2, 1, 2);
        x = Due.townOf("co100100500;y06;");
        // Year 7: 4 are taken (or 9), then half of 55 (or 60) comes back.
        fraction(x, 70, 1, 2, 1, 1);
        fraction(x, 71, 1, 2, 1, 2);
        fraction(x, 72, 1, 2, 1, 2);
        fraction(x, 73, 1, 2, 0, 1);
        x = Due.townOf("ci100100500;co100100500;");
        T.due("chance(1, 81, 1, 2, 0)", x.chance(1, 81, 1, 2, 0), 1);
        T.due("chance(1, 81, 1, 2, 1)", x.chance(1, 81, 1, 2, 1), 2);
        T.due("chance(0, 81, 1, 2, 1)", x.chance(0, 81, 1, 2, 1), 1);
    }

    private static void chanceRefused() {
        T.part("29 chance, refused");
        TheAngelsWantMore x = Due.townOf("co100100500;");
        T.due("no cask", x.chance(1, -1, -1, 1, 2), Due.refused(-1));
        T.due("no cask", x.chance(-1, 401, 9, 21, 2), Due.refused(-1));
        T.due("v below", x.chance(0, -1, 9, 21, 2), Due.refused(-4));
        T.due("n below", x.chance(0, 401, -1, 21, 2), Due.refused(-4));
        T.due("t below", x.chance(0, 401, 9, 1, 2), Due.refused(-4));
        T.due("t of 0", x.chance(0, 0, 0, 0, 0), Due.refused(-4));
        T.due("v above", x.chance(0, 401, 8, 20, 2), Due.refused(-6));
        T.due("n above", x.chance(0, 400, 9, 20, 2), Due.refused(-6));
        T.due("t above", x.chance(0, 400, 8, 21, 2), Due.refused(-6));
        T.due("part", x.chance(0, 400, 8, 20, 2), Due.refused(-2));
        T.due("part", x.chance(0, 400, 8, 20, -1), Due.refused(-2));
        T.due("least", x.chance(Integer.MIN_VALUE, 0, 0, 2, 0), Due.refused(-1));
        T.due("greatest n", x.chance(0, 0, Integer.MAX_VALUE, 2, 0), Due.refused(-6));
        T.due("count(11)", x.count(11), 3);
        T.due("count(12)", x.count(12), 2);
        T.due("count(14)", x.count(14), 4);
        T.due("count(16)", x.count(16), 4);
    }

    /** The first Lents that seeds draw, worked out elsewhere. */
    private static void lots() {
        T.part("30 lots");
        int[] seeds = {0, 7, -1, Integer.MAX_VALUE, Integer.MIN_VALUE};
        int[][] lents = {{6, 4, 1, 6, 2, 6, 6, 3, 4, 7, 4, 4, 6, 3, 5, 4, 2, 7, 4, 1},
            {7, 3, 6, 2, 6, 6, 1, 4, 7, 9, 5, 7, 6, 1, 3, 4, 1, 7, 4, 1},
            {2, 3, 9, 1, 5, 6, 8, 5, 8, 9, 1, 5, 4, 8, 3, 5, 1, 3, 1, 1},
            {2, 3, 9, 1, 5, 6, 8, 5, 8, 9, 1, 5, 4, 8, 3, 5, 1, 3, 1, 1},
            {6, 4, 1, 6, 2, 6, 6, 3, 4, 7, 4, 4, 6, 3, 5, 4, 2, 7, 4, 1}};
        String town = "co300300400;cm200120500;cb100090403;cs250200302;y03;";
        for (int s = 0; s < seeds.length; s++) {
            int amounts = 0;
            int taken = 0;
            for (int n = 1; n <= 20; n++) {
                TheAngelsWantMore one = Due.townOf(town);
                one.set(1, lents[s][n - 1]);
                one.years(20);
                amounts += one.count(5);
                taken += one.count(6);
                TheAngelsWantMore x = Due.townOf(town);
                T.due("lots(" + n + ", " + seeds[s] + ", 0)", x.lots(n, seeds[s], 0), amounts);
                T.due("lots(" + n + ", " + seeds[s] + ", 1)", x.lots(n, seeds[s], 1), taken);
                T.due("lent stays", x.count(3), 4);
                T.due("year stays", x.count(1), 3);
            }
        }
        TheAngelsWantMore x = Due.townOf("ci300300400;");
        T.due("lots(20, 5, 0)", x.lots(20, 5, 0), 6000);
        T.due("lots(20, 5, 1)", x.lots(20, 5, 1), 0);
    }

    private static void lotsRefused() {
        T.part("30 lots, refused");
        TheAngelsWantMore x = Due.townOf("co100100500;");
        T.due("lots(0, 0, 2)", x.lots(0, 0, 2), -4);
        T.due("lots(-1, 0, -1)", x.lots(-1, 0, -1), -4);
        T.due("lots(21, 0, 2)", x.lots(21, 0, 2), -6);
        T.due("lots(20, 0, 2)", x.lots(20, 0, 2), -2);
        T.due("lots(1, 0, -1)", x.lots(1, 0, -1), -2);
        T.due("lots(least, 0, 0)", x.lots(Integer.MIN_VALUE, 0, 0), -4);
        T.due("lots(greatest, 0, 0)", x.lots(Integer.MAX_VALUE, 0, 0), -6);
        T.due("none", new TheAngelsWantMore().lots(3, 3, 0), 0);
    }
}
