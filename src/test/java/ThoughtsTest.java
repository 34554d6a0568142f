import java.util.ArrayList;
import java.util.List;

/**
 * Part II of the document by the program's own other calls: what is thought of is what comes when the years do go by,
 * when the choice is made, when the cask is of the other kind, at the ends that the document names: 0 and 200 years on,
 * years behind 999, rates 0 and 40, Lents 1 and 9, all twelve numbers of a row, all courses of eight Lents.
 */
public final class ThoughtsTest {
    private static final Due T = new Due();
    private static final int[] YEARS = {0, 1, 2, 6, 7, 35, 199, 200};
    private static final String[] CASKS = {
        "",
        "co100100500;",
        "co100000500;ch050000400;",
        "cb100013509;cb100011505;",
        "cs400001999;ci050050600;co100100500;co100100500;",
        "co300300400;cm200120500;cb100090403;ci050050600;cs250200302;ch100080205;co009007995;",
    };
    private static final String FAR = "y60;y60;y60;y60;y60;y60;y60;y60;y60;y60;y60;y60;y60;y60;y60;y60;y39;";
    private static final String[] CHOICES = {"", "r40;l1;e9;", "r00;l9;e0;", "r01;l8;e1;", "r12;l2;y06;", "r33;l7;e3;y48;"};

    public static void main(String[] args) {
        inThoughtYearMayPass999();
        for (String casks : CASKS) {
            for (String choices : CHOICES) {
                T.part("town " + choices + casks);
                yearsThatGoBy(choices, casks);
                for (int n : YEARS) {
                    ofAll(choices, casks, n);
                    layDownAndSell(choices, casks, n);
                    treaty(choices, casks, n);
                    bestSet(choices, casks, n);
                    iron(choices, casks, n);
                }
                firstYears(choices, casks);
                which(choices, casks);
                chance(choices, casks);
            }
        }
        bestAtTheEnds();
        T.end();
    }

    /** The town with its choices and years ahead of its casks, so that nothing is taken yet. */
    private static TheAngelsWantMore made(String choices, String casks) {
        TheAngelsWantMore x = new TheAngelsWantMore();
        if (!choices.isEmpty()) {
            T.due("choices", Due.town(x, choices) > 0 ? 1 : 0, 1);
        }
        if (!casks.isEmpty()) {
            T.due("casks", Due.town(x, casks), casks.length() / 12);
        }
        return x;
    }

    private static int sum(TheAngelsWantMore x, int n, int what) {
        int sum = 0;
        for (int i = 0; i < x.count(0); i++) {
            sum += x.behind(i, n, what);
        }
        return sum;
    }

    /**
     * 840 years are whole rounds of 5, 7 and each LENT but 9; 630 are of 5, 7 and 9: behind year 999 all comes as behind
     * year 159 or 369.
     */
    private static void inThoughtYearMayPass999() {
        for (String casks : CASKS) {
            T.part("in thought YEAR may pass 999: " + casks);
            for (int lent = 1; lent <= 9; lent++) {
                int alike = lent == 9 ? 369 : 159;
                String far = thoughts(inYear(999, lent, casks));
                T.due("lent " + lent, far.equals(thoughts(inYear(alike, lent, casks))) ? 1 : 0, 1);
            }
            // These seeds draw a LENT of 6, 7 and 2.
            for (int seed : new int[] {0, 7, -1}) {
                TheAngelsWantMore far = inYear(999, 4, casks);
                TheAngelsWantMore near = inYear(159, 4, casks);
                T.due("lots, amounts", far.lots(1, seed, 0), near.lots(1, seed, 0));
                T.due("lots, taken", far.lots(1, seed, 1), near.lots(1, seed, 1));
            }
            for (int n : YEARS) {
                T.due("treaty(" + n + ")", inYear(999, 4, casks).treaty(n), inYear(159, 4, casks).treaty(n));
                bestSet(FAR, casks, n);
            }
        }
    }

    private static TheAngelsWantMore inYear(int year, int lent, String casks) {
        TheAngelsWantMore x = new TheAngelsWantMore();
        x.set(1, lent);
        for (int left = year; left > 0; left -= 60) {
            x.years(Math.min(60, left));
        }
        T.due("year", x.count(1), year);
        Due.town(x, casks);
        return x;
    }

    private static String thoughts(TheAngelsWantMore x) {
        StringBuilder b = new StringBuilder();
        for (int n : YEARS) {
            b.append(x.allBehind(n, 0)).append(' ').append(x.allBehind(n, 1)).append(' ').append(x.allBehind(n, 2)).append(' ');
            b.append(x.theirs(-1, n, 0)).append(' ').append(x.theirs(-1, n, 1)).append(' ').append(x.exciseIn(n)).append(' ');
            b.append(x.layDown(n)).append(' ').append(x.sell(n)).append(' ').append(x.iron(n)).append(' ');
            b.append(x.bestSet(n, 0)).append(' ');
            for (int i = 0; i < x.count(0); i++) {
                b.append(x.behind(i, n, 0)).append(' ').append(x.behind(i, n, 1)).append(' ').append(x.theirs(i, n, 0)).append(' ');
            }
        }
        b.append(x.turns()).append(' ');
        for (int i = 0; i < 12 && x.count(0) > 0; i++) {
            x.row(Math.min(99, x.behind(0, i, 0)));
        }
        for (int i = 0; i < x.count(0); i++) {
            b.append(x.low(i, 9)).append(' ').append(x.hum(i)).append(' ').append(x.which(i, 0)).append(' ').append(x.which(i, 1));
            b.append(' ').append(x.chance(i, 40, 8, 3, 0)).append(' ');
        }
        for (int what = 11; what <= 16; what++) {
            T.due("no refusals", x.count(what), 0);
        }
        return b.toString();
    }

    /** Of one, the same as when the years do go by; 60 go by at once at the most. No object has more than 512 calls. */
    private static void yearsThatGoBy(String choices, String casks) {
        TheAngelsWantMore thought = made(choices, casks);
        TheAngelsWantMore lived = made(choices, casks);
        TheAngelsWantMore taxed = made(choices, casks);
        int duty = 0;
        for (int n = 0; n <= 200; n++) {
            if (n > 0) {
                lived.years(1);
                taxed.years(1);
                duty += taxed.excise(-1);
            }
            if (n < 3 || n == 7 || n > 198) {
                T.due("exciseIn(" + n + ")", thought.exciseIn(n), duty);
                for (int i = 0; i < thought.count(0); i++) {
                    T.due("behind(" + i + ", " + n + ", 0)", thought.behind(i, n, 0), lived.cask(i, 2));
                    T.due("behind(" + i + ", " + n + ", 1)", thought.behind(i, n, 1), lived.cask(i, 3));
                    T.due("behind(" + i + ", " + n + ", 2)", thought.behind(i, n, 2), lived.cask(i, 5));
                }
            }
        }
        TheAngelsWantMore atOnce = made(choices, casks);
        for (int n : new int[] {60, 60, 60, 20}) {
            atOnce.years(n);
        }
        T.due("200 years in four goes", Due.state(atOnce).equals(Due.state(lived)) ? 1 : 0, 1);
    }

    private static void ofAll(String choices, String casks, int n) {
        TheAngelsWantMore x = made(choices, casks);
        T.due("allBehind(" + n + ", 0)", x.allBehind(n, 0), sum(x, n, 0));
        T.due("allBehind(" + n + ", 1)", x.allBehind(n, 1), sum(x, n, 2));
        int most = -9;
        for (int i = x.count(0) - 1; i >= 0; i--) {
            most = most < 0 || x.behind(i, n, 0) >= x.behind(most, n, 0) ? i : most;
        }
        T.due("allBehind(" + n + ", 2)", x.allBehind(n, 2), most);
        for (int i = -1; i < x.count(0); i++) {
            long taken = i < 0 ? sum(x, n, 2) : x.behind(i, n, 2);
            long all = taken + (i < 0 ? sum(x, n, 0) : x.behind(i, n, 0));
            long above = x.theirs(i, n, 0);
            long below = x.theirs(i, n, 1);
            T.due("theirs(" + i + ", " + n + ")", above * Math.max(1, all), below * taken);
            for (int d = 2; d <= below; d++) {
                T.due("theirs in least terms, by " + d, above % d == 0 && below % d == 0 ? 1 : 0, 0);
            }
        }
    }

    private static void layDownAndSell(String choices, String casks, int n) {
        TheAngelsWantMore x = made(choices, casks);
        int most = -9;
        int least = -9;
        for (int i = 0; i < x.count(0); i++) {
            int worth = x.behind(i, n, 0) * x.behind(i, n, 1);
            if (most < 0 || worth > x.behind(most, n, 0) * x.behind(most, n, 1)) {
                most = i;
            }
            long other = least < 0 ? 0 : x.behind(least, n, 0) * x.behind(least, n, 1);
            if (x.cask(i, 2) > 0 && (least < 0 || (long) worth * x.cask(least, 2) < other * x.cask(i, 2))) {
                least = i;
            }
        }
        T.due("layDown(" + n + ")", x.layDown(n), most);
        T.due("sell(" + n + ")", x.sell(n), least);
    }

    private static void treaty(String choices, String casks, int n) {
        TheAngelsWantMore x = made(choices, casks);
        int[] amounts = new int[4];
        int[] taken = new int[4];
        int rate = x.count(2);
        for (int pair = 0; pair < 4; pair++) {
            x.set(1, pair < 2 ? 2 : 8);
            x.set(0, pair % 2 == 0 ? rate : rate / 2);
            amounts[pair] = x.allBehind(n, 0);
            taken[pair] = x.allBehind(n, 1);
        }
        int due = -9;
        for (int pair = 3; pair >= 0; pair--) {
            if (amounts[pair] >= amounts[pair ^ 2] && taken[pair] >= taken[pair ^ 1]) {
                due = pair / 2 * 10 + pair % 2;
            }
        }
        T.due("treaty(" + n + ")", made(choices, casks).treaty(n), due);
    }

    private static void bestSet(String choices, String casks, int n) {
        for (int what = 0; what < 2; what++) {
            TheAngelsWantMore x = made(choices, casks);
            int best = x.bestSet(n, what);
            int was = x.count(2 + what);
            x.set(what, best);
            long above = x.theirs(-1, n, 0);
            long below = x.theirs(-1, n, 1);
            T.due("best " + best + " is one", best >= (what == 0 ? 0 : 1) && best <= (what == 0 ? 40 : 9) ? 1 : 0, 1);
            for (int v = what == 0 ? 0 : 1; v <= (what == 0 ? 40 : 9); v++) {
                x.set(what, v);
                long less = above * x.theirs(-1, n, 1) - x.theirs(-1, n, 0) * below;
                String name = "bestSet(" + n + ", " + what + ") = " + best + ", by " + v;
                T.due(name, v < best && less > 0 || v >= best && less >= 0 ? 1 : 0, 1);
            }
            T.due("it stays", made(choices, casks).count(2 + what), was);
        }
    }

    private static void iron(String choices, String casks, int n) {
        TheAngelsWantMore x = made(choices, casks);
        int best = -9;
        int most = x.allBehind(n, 0);
        for (int i = 0; i < x.count(0); i++) {
            char[] other = casks.toCharArray();
            other[12 * i + 1] = 'i';
            int then = made(choices, new String(other)).allBehind(n, 0);
            if (then > most) {
                most = then;
                best = i;
            }
        }
        T.due("iron(" + n + ")", x.iron(n), best);
    }

    /** LOW, HUM and TURNS by what is behind each of the years 0 .. 200. */
    private static void firstYears(String choices, String casks) {
        TheAngelsWantMore x = made(choices, casks);
        int casksThere = x.count(0);
        int[][] amounts = new int[casksThere][201];
        int[][] taken = new int[casksThere][201];
        TheAngelsWantMore lived = made(choices, casks);
        int turns = -9;
        int before = 0;
        for (int n = 0; n <= 200; n++) {
            if (n > 0 && turns < 0) {
                lived.years(1);
                int now = lived.count(6);
                turns = now < before ? n : turns;
                before = now;
            }
            for (int i = 0; i < casksThere; i++) {
                amounts[i][n] = made(choices, casks).behind(i, n, 0);
                taken[i][n] = made(choices, casks).behind(i, n, 2);
            }
        }
        T.due("turns()", x.turns(), turns);
        for (int i = 0; i < casksThere; i++) {
            int hum = -9;
            for (int n = 200; n >= 0; n--) {
                hum = taken[i][n] > 0 && 2 * taken[i][n] >= taken[i][n] + amounts[i][n] ? n : hum;
            }
            T.due("hum(" + i + ")", x.hum(i), hum);
            for (int v : new int[] {0, 1, 6, 7, 50, 99, 100, 299, 300, 400}) {
                int low = -9;
                for (int n = 200; n >= 0; n--) {
                    low = amounts[i][n] <= v ? n : low;
                }
                T.due("low(" + i + ", " + v + ")", x.low(i, v), low);
            }
        }
    }

    /** All twelve numbers of a row, as they are of each kind and by each rate, and with the last one wrong. */
    private static void which(String choices, String casks) {
        for (int i = 0; i < casks.length() / 12; i++) {
            List<List<Integer>> byKind = new ArrayList<>();
            for (char kind : "ombish".toCharArray()) {
                char[] other = casks.toCharArray();
                other[12 * i + 1] = kind;
                byKind.add(twelve(made(choices, new String(other)), i));
            }
            List<List<Integer>> byRate = new ArrayList<>();
            for (int rate = 0; rate <= 40; rate++) {
                TheAngelsWantMore x = made(choices, casks);
                x.set(0, rate);
                byRate.add(twelve(x, i));
            }
            for (List<Integer> row : byKind) {
                rowFits(choices, casks, i, row, byKind, byRate);
                List<Integer> wrong = new ArrayList<>(row);
                wrong.set(11, (row.get(11) + 1) % 100);
                rowFits(choices, casks, i, wrong, byKind, byRate);
            }
            rowFits(choices, casks, i, byRate.get(0), byKind, byRate);
            rowFits(choices, casks, i, byRate.get(40), byKind, byRate);
            rowFits(choices, casks, i, List.of(), byKind, byRate);
        }
    }

    private static List<Integer> twelve(TheAngelsWantMore x, int cask) {
        List<Integer> row = new ArrayList<>();
        for (int n = 0; n < 12; n++) {
            row.add(Math.min(99, x.behind(cask, n, 0)));
        }
        return row;
    }

    private static void rowFits(String choices, String casks, int cask, List<Integer> row, List<List<Integer>> byKind,
            List<List<Integer>> byRate) {
        TheAngelsWantMore x = made(choices, casks);
        for (int v : row) {
            x.row(v);
        }
        int kinds = 0;
        for (int k = 0; k < 6; k++) {
            kinds += byKind.get(k).subList(0, row.size()).equals(row) ? 1 << k : 0;
        }
        int rates = 0;
        for (List<Integer> other : byRate) {
            rates += other.subList(0, row.size()).equals(row) ? 1 : 0;
        }
        T.due("which(" + cask + ", 0) of " + row, x.which(cask, 0), kinds);
        T.due("which(" + cask + ", 1) of " + row, x.which(cask, 1), rates);
        List<Integer> right = twelve(x, cask);
        int first = -9;
        for (int n = row.size() - 1; n >= 0; n--) {
            first = right.get(n).equals(row.get(n)) ? first : n;
        }
        T.due("judge(" + cask + ") of " + row, x.judge(cask), first);
        T.due("the row has none then", x.count(7), 0);
    }

    /** Each course of Lents lived through, LENT set anew in each year: 1 for a Lent; a number that does not divide, for none. */
    private static void chance(String choices, String casks) {
        for (int cask = 0; cask < casks.length() / 12; cask += 3) {
            for (int n : new int[] {0, 1, 2, 8}) {
                int[] ends = new int[1 << n];
                for (int lents = 0; lents < ends.length; lents++) {
                    TheAngelsWantMore x = made(choices, casks);
                    for (int i = 0; i < n; i++) {
                        int next = x.count(1) + 1;
                        x.set(1, (lents >> i) % 2 == 1 ? 1 : next % 9 != 0 ? 9 : 8);
                        x.years(1);
                    }
                    ends[lents] = x.cask(cask, 2);
                }
                TheAngelsWantMore x = made(choices, casks);
                for (int t : new int[] {2, 3, 20}) {
                    for (int v : new int[] {0, 1, ends[0], ends[0] + 1, ends[ends.length - 1], ends[ends.length / 2], 400}) {
                        likely(x, cask, Math.min(400, v), n, t, ends);
                    }
                }
            }
        }
    }

    private static void likely(TheAngelsWantMore x, int cask, int v, int n, int t, int[] ends) {
        long above = 0;
        long below = 1;
        for (int i = 0; i < n; i++) {
            below *= t;
        }
        for (int lents = 0; lents < ends.length; lents++) {
            long ways = 1;
            for (int i = 0; i < n; i++) {
                ways *= (lents >> i) % 2 == 1 ? 1 : t - 1;
            }
            above += ends[lents] >= v ? ways : 0;
        }
        // below is made of the primes 2, 3 and 5 alone.
        for (int prime : new int[] {2, 3, 5}) {
            while (above % prime == 0 && below % prime == 0) {
                above /= prime;
                below /= prime;
            }
        }
        String call = "chance(" + cask + ", " + v + ", " + n + ", " + t;
        T.due(call + ", 0)", x.chance(cask, v, n, t, 0), above);
        T.due(call + ", 1)", x.chance(cask, v, n, t, 1), above == 0 ? 1 : below);
    }

    private static void bestAtTheEnds() {
        T.part("BEST LENT (1 .. 9), of several the least");
        String[] towns = {"r40;cb100001500;", "r40;y04;cb100009508;", "r38;y03;cb100010509;", "r40;y02;cb100009508;",
            "r37;y06;cb100010509;", "r13;y01;cb100015508;", "r33;y04;cb100008507;", "r40;cb100003502;", "r34;y04;cb100011509;"};
        int[] behind = {1, 3, 4, 5, 8, 6, 3, 7, 5};
        for (int lent = 1; lent <= 9; lent++) {
            T.due(towns[lent - 1], Due.townOf(towns[lent - 1]).bestSet(behind[lent - 1], 1), lent);
        }
        T.part("BEST RATE (0 .. 40), of several the least");
        for (int rate = 0; rate <= 40; rate++) {
            TheAngelsWantMore x = Due.townOf("co100100500;r" + rate / 10 + rate % 10 + ";");
            T.due("whatever it is now", x.bestSet(1, 0), 40);
            T.due("when nothing changes", x.bestSet(0, 0), 0);
        }
        // They take 1 of 3 from rate 34 on, 1 of 5 from 20 on; of 2 none below 50.
        T.due("1 of 3", Due.townOf("co100003500;").bestSet(1, 0), 34);
        T.due("1 of 5, then 2 of 5 from 40 on", Due.townOf("co100005500;").bestSet(1, 0), 40);
        T.due("1 of 2 in a Lent from 25 on", Due.townOf("co100002500;l1;").bestSet(1, 0), 25);
        T.due("nothing of 2", Due.townOf("co100002500;").bestSet(1, 0), 0);
    }
}
