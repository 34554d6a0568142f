import java.util.Random;

/** All promises: runs of calls at random, each answer compared with the oracle's. */
public final class OracleTest {
    private static final int RUNS = 1400;
    // An object is promised for 512 calls: a run begins no more behind these, and one step makes 110 at the most.
    private static final int CALLS = 400;
    private static final int TELLING = 200;
    private static final int[] EDGES = {Integer.MIN_VALUE, -1000, -3, -2, -1, 0, 1, 2, 3, 6, 7, 8, 9, 10, 19, 20, 21, 40,
        41, 59, 60, 61, 79, 80, 81, 99, 100, 199, 200, 201, 255, 256, 399, 400, 401, 999, 1000, Integer.MAX_VALUE};

    private static Random random;
    private static TheAngelsWantMore x;
    private static Oracle o;
    private static StringBuilder trail;
    private static int wrong = 0;
    private static int compared = 0;
    private static int calls = 0;

    public static void main(String[] args) {
        for (int run = 0; run < RUNS && wrong < 5; run++) {
            random = new Random(run);
            x = new TheAngelsWantMore();
            o = new Oracle();
            trail = new StringBuilder();
            int before = wrong;
            boolean wild = run % 3 == 0;
            calls = 0;
            while (calls < TELLING && o.count(0) <= run % 4 && run % 20 != 19) {
                tell(aTown());
            }
            for (int i = 0; i < CALLS && calls < CALLS && wrong == before; i++) {
                call(wild);
            }
        }
        System.out.println(compared + " answers compared, " + wrong + " not as due");
        if (wrong != 0) {
            System.exit(1);
        }
    }

    private static void same(String call, long got, long want) {
        compared++;
        calls++;
        trail.append(call).append(" = ").append(got).append('\n');
        if (got != want) {
            wrong++;
            System.out.println(trail.substring(Math.max(0, trail.length() - 1500)) + "the oracle answers " + want);
        }
    }

    private static void tell(String text) {
        trail.append("letters of ").append(text).append('\n');
        for (int i = 0; i < text.length(); i++) {
            same("letter(" + (int) text.charAt(i) + ")", x.letter(text.charAt(i)), o.letter(text.charAt(i)));
        }
        same("town()", x.town(), o.town());
    }

    private static int below(int n) {
        return random.nextInt(n);
    }

    private static String digits(int v, int length) {
        String s = "" + v;
        while (s.length() < length) {
            s = "0" + s;
        }
        return s.substring(s.length() - length);
    }

    private static String aCask() {
        int size = below(60) == 0 ? below(1000) : below(3) == 0 ? 1 + below(30) : 1 + below(400);
        int amount = below(60) == 0 ? below(1000) : below(3) == 0 ? Math.min(size, 999) : below(Math.min(size, 999) + 1);
        return "c" + "ombish".charAt(below(6)) + digits(size, 3) + digits(amount, 3) + digits(below(100), 2) + below(10) + ";";
    }

    private static String aStatement() {
        switch (below(10)) {
            case 0:
                return "r" + digits(below(10) == 0 ? below(100) : below(41), 2) + ";";
            case 1:
                return "l" + (below(20) == 0 ? 0 : 1 + below(9)) + ";";
            case 2:
                return "e" + below(10) + ";";
            case 3:
                return "y" + digits(below(10) == 0 ? below(100) : 1 + below(20), 2) + ";";
            case 4:
                return (below(2) == 0 ? "p10" : "p" + below(3) + below(3)) + digits(below(9) == 0 ? below(500) : 1 + below(3), 3) + ";";
            default:
                return aCask();
        }
    }

    private static String aTown() {
        StringBuilder text = new StringBuilder();
        int most = 1 + below(12);
        for (int i = 0; i < most; i++) {
            String next = i < 1 + below(3) ? aCask() : aStatement();
            if (text.length() + next.length() <= 96) {
                text.append(next);
            }
        }
        if (below(12) == 0) {
            int at = below(text.length());
            text.setCharAt(at, "ombishcrlepy;0123456789 x".charAt(below(25)));
        }
        if (below(15) == 0) {
            text.setLength(below(text.length() + 1));
        }
        return text.toString();
    }

    private static int number(boolean wild, int least, int most) {
        if (below(wild ? 4 : 40) == 0) {
            return EDGES[below(EDGES.length)];
        }
        return least + below(most - least + 1);
    }

    private static void call(boolean wild) {
        int cask = below(wild ? 3 : 12) == 0 ? number(wild, -1, 7) : below(Math.max(1, o.count(0)));
        int other = number(wild, 0, Math.max(1, o.count(0) - 1));
        int years = number(wild, 0, below(4) == 0 ? 200 : 30);
        int what = number(wild, 0, 2);
        int two = number(wild, 0, 1);
        switch (below(34)) {
            case 0: {
                int c = number(wild, 0, 255);
                same("letter(" + c + ")", x.letter(c), o.letter(c));
                break;
            }
            case 1: {
                if (below(6) == 0) {
                    same("town()", x.town(), o.town());
                    tell(aTown());
                }
                break;
            }
            case 2: {
                int all = number(wild, 0, 5);
                same("cask(" + cask + ", " + all + ")", x.cask(cask, all), o.cask(cask, all));
                break;
            }
            case 3: {
                int v = number(wild, 0, what == 0 ? 40 : 9);
                same("set(" + what + ", " + v + ")", x.set(what, v), o.set(what, v));
                break;
            }
            case 4: {
                int v = number(wild, 0, below(2) == 0 ? 50 : 400);
                same("fill(" + cask + ", " + v + ")", x.fill(cask, v), o.fill(cask, v));
                break;
            }
            case 5: {
                int a = number(wild, 0, below(2) == 0 ? 30 : 400);
                int r = number(wild, 0, 80);
                same("takes(" + cask + ", " + a + ", " + r + ")", x.takes(cask, a, r), o.takes(cask, a, r));
                break;
            }
            case 6: {
                int n = number(wild, 1, 40);
                same("pour(" + cask + ", " + other + ", " + n + ")", x.pour(cask, other, n), o.pour(cask, other, n));
                break;
            }
            case 7: {
                int n = number(wild, 1, below(3) == 0 ? 60 : 4);
                same("years(" + n + ")", x.years(n), o.years(n));
                break;
            }
            default:
                thoughts(wild, cask, years, what, two);
        }
    }

    private static void thoughts(boolean wild, int cask, int years, int what, int two) {
        int strength = number(wild, 0, 99);
        switch (below(26)) {
            case 0:
                same("behind(" + cask + ", " + years + ", " + what + ")", x.behind(cask, years, what), o.behind(cask, years, what));
                break;
            case 1:
                same("allBehind(" + years + ", " + what + ")", x.allBehind(years, what), o.allBehind(years, what));
                break;
            case 2: {
                int one = below(3) == 0 ? -1 : cask;
                same("theirs(" + one + ", " + years + ", " + two + ")", x.theirs(one, years, two), o.theirs(one, years, two));
                break;
            }
            case 3: {
                int one = below(3) == 0 ? -1 : cask;
                same("excise(" + one + ")", x.excise(one), o.excise(one));
                break;
            }
            case 4: {
                int n = below(10) == 0 ? years : years % 30;
                same("exciseIn(" + n + ")", x.exciseIn(n), o.exciseIn(n));
                break;
            }
            case 5: {
                int v = number(wild, 0, below(2) == 0 ? 40 : 400);
                same("low(" + cask + ", " + v + ")", x.low(cask, v), o.low(cask, v));
                break;
            }
            case 6:
                same("turns()", x.turns(), o.turns());
                break;
            case 7:
                same("hum(" + cask + ")", x.hum(cask), o.hum(cask));
                break;
            case 8:
                same("pourFor(" + cask + ", " + strength + ")", x.pourFor(cask, strength), o.pourFor(cask, strength));
                break;
            case 9: {
                int strong = o.behind(0, 0, 1);
                same("behind(0, 0, 1)", x.behind(0, 0, 1), strong);
                int near = Math.max(0, Math.min(99, strong + below(7) - 3));
                same("pourFor(" + cask + ", " + near + ")", x.pourFor(cask, near), o.pourFor(cask, near));
                break;
            }
            case 10:
                same("blend(" + strength + ")", x.blend(strength), o.blend(strength));
                break;
            case 11:
                same("spread()", x.spread(), o.spread());
                break;
            case 12:
                same("layDown(" + years + ")", x.layDown(years), o.layDown(years));
                break;
            case 13:
                same("sell(" + years + ")", x.sell(years), o.sell(years));
                break;
            case 14:
                same("treaty(" + years + ")", x.treaty(years), o.treaty(years));
                break;
            case 15:
                same("bestSet(" + years + ", " + two + ")", x.bestSet(years, two), o.bestSet(years, two));
                break;
            case 16:
                same("iron(" + years + ")", x.iron(years), o.iron(years));
                break;
            default:
                rowsAndLots(wild, cask, two);
        }
    }

    private static void rowsAndLots(boolean wild, int cask, int two) {
        switch (below(9)) {
            case 0: {
                int v = number(wild, 0, 99);
                same("row(" + v + ")", x.row(v), o.row(v));
                break;
            }
            case 1: {
                // A row as it will be of some cask, so that there is something to be found.
                int length = 1 + below(7);
                same("judge(" + cask + ")", x.judge(cask), o.judge(cask));
                for (int i = 0; i < length; i++) {
                    int a = o.behind(cask, i, 0);
                    same("behind", x.behind(cask, i, 0), a);
                    int v = Math.min(99, a) + (below(15) == 0 ? 1 : 0);
                    same("row(" + v + ")", x.row(v), o.row(v));
                }
                break;
            }
            case 2:
            case 3:
                same("which(" + cask + ", " + two + ")", x.which(cask, two), o.which(cask, two));
                break;
            case 4:
                same("judge(" + cask + ")", x.judge(cask), o.judge(cask));
                break;
            case 5: {
                int n = number(wild, 0, 8);
                int t = number(wild, 2, 20);
                int a = o.behind(cask, n, 0);
                same("behind(" + cask + ", " + n + ", 0)", x.behind(cask, n, 0), a);
                int v = below(3) == 0 ? number(wild, 0, 400) : Math.max(0, a);
                same("chance(" + cask + ", " + v + ", " + n + ", " + t + ", " + two + ")", x.chance(cask, v, n, t, two),
                        o.chance(cask, v, n, t, two));
                break;
            }
            case 6: {
                int n = number(wild, 1, 20);
                int z = below(2) == 0 ? random.nextInt() : number(wild, 0, 9);
                same("lots(" + n + ", " + z + ", " + two + ")", x.lots(n, z, two), o.lots(n, z, two));
                break;
            }
            case 7:
                if (below(3) == 0) {
                    same("image()", x.image(), o.image());
                } else {
                    same("on()", x.on(), o.on());
                }
                break;
            default: {
                for (int what = -1; what <= 18; what++) {
                    same("count(" + what + ")", x.count(what), o.count(what));
                }
                int what = number(wild, 0, 17);
                same("count(" + what + ")", x.count(what), o.count(what));
            }
        }
    }
}
