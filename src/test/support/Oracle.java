import java.math.BigInteger;
import java.util.ArrayList;
import java.util.LinkedHashMap;
import java.util.List;
import java.util.Map;
import java.util.TreeMap;
import java.util.regex.Matcher;
import java.util.regex.Pattern;

/**
 * The document once more, written for the tests in another way than the class: with new towns in each call, lists,
 * regular expressions and big numbers. It is compared with the class by calls at random.
 */
final class Oracle {
    /** A cask; a year makes another one. */
    record Cask(char kind, int size, int amount, int strength, int figure, int taken) {
        int oakTakes(int a, int r) {
            return BigInteger.valueOf(a).multiply(BigInteger.valueOf(r)).divide(BigInteger.valueOf(100)).intValue();
        }

        int takes(int a, int r) {
            int oak = oakTakes(a, r);
            int wanted = oak;
            if (kind == 'm') {
                wanted = oak >> 1;
            } else if (kind == 'i') {
                wanted = 0;
            } else if (kind == 's') {
                wanted = oak + figure;
            } else if (kind == 'h' && taken > a) {
                wanted = oak + oak;
            }
            return wanted > a ? a : wanted;
        }

        int strengthThen(int year) {
            int s = strength;
            if (kind == 'm' && s > 0) {
                s--;
            }
            boolean fifth = year % 5 == 0 && (kind == 'b' || kind == 's');
            if ((kind == 'h' || fifth) && s < 99) {
                s++;
            }
            return s;
        }

        Cask afterYear(int year, int rate) {
            int part = takes(amount, rate);
            int nowTaken = taken + part;
            int left = amount - part;
            int back = 0;
            if (year % 7 == 0) {
                if (kind == 'o') {
                    back = nowTaken >> 1;
                } else if (kind == 's') {
                    back = (nowTaken - nowTaken % 3) / 3;
                } else if (kind == 'b' && !(nowTaken < figure)) {
                    back = figure;
                }
            }
            if (left + back > size) {
                back = size - left;
            }
            return new Cask(kind, size, left + back, strengthThen(year), figure, nowTaken - back);
        }

        Cask as(char otherKind) {
            return new Cask(otherKind, size, amount, strength, figure, taken);
        }

        Cask with(int otherAmount, int otherStrength) {
            return new Cask(kind, size, otherAmount, otherStrength, figure, taken);
        }
    }

    /** All that an image keeps. */
    record Town(List<Cask> casks, int rate, int lent, int excise, int year) {
        Town afterYear() {
            int next = year + 1;
            int r = next % lent == 0 ? 2 * rate : rate;
            List<Cask> then = new ArrayList<>();
            for (Cask c : casks) {
                then.add(c.afterYear(next, r > 80 ? 80 : r));
            }
            return new Town(then, rate, lent, excise, next);
        }

        Town after(int n) {
            return n == 0 ? this : afterYear().after(n - 1);
        }

        Town by(int otherRate, int otherLent) {
            return new Town(casks, otherRate, otherLent, excise, year);
        }

        Town with(int i, Cask c) {
            List<Cask> others = new ArrayList<>(casks);
            others.set(i, c);
            return new Town(others, rate, lent, excise, year);
        }

        int amounts() {
            return casks.stream().mapToInt(Cask::amount).sum();
        }

        int taken() {
            return casks.stream().mapToInt(Cask::taken).sum();
        }

        int duty(int i) {
            return excise * ((casks.get(i).amount + casks.get(i).taken) / 10);
        }

        int duty() {
            int all = 0;
            for (int i = 0; i < casks.size(); i++) {
                all += duty(i);
            }
            return all;
        }

        /** The town with so much poured, or null where it can not be. */
        Town poured(int from, int to, int n) {
            int last = casks.size() - 1;
            if (from == to || from < 0 || to < 0 || from > last || to > last || n < 1 || n > 400) {
                return null;
            }
            Cask giver = casks.get(from);
            Cask taker = casks.get(to);
            if (giver.amount < n || taker.amount + n > taker.size) {
                return null;
            }
            int strength = (taker.strength * taker.amount + giver.strength * n) / (taker.amount + n);
            return with(from, giver.with(giver.amount - n, giver.strength)).with(to, taker.with(taker.amount + n, strength));
        }
    }

    private static final String KINDS = "ombish";
    private static final Pattern STATEMENT =
            Pattern.compile("c[ombish][0-9]{9};|r[0-9]{2};|l[0-9];|e[0-9];|p[0-9]{5};|y[0-9]{2};");

    private Town town = new Town(List.of(), 10, 4, 2, 0);
    private Town image = null;
    private String letters = "";
    private List<Integer> row = new ArrayList<>();
    private final Map<Integer, Integer> refused = new TreeMap<>();

    private int no(int number) {
        refused.merge(number, 1, Integer::sum);
        return number;
    }

    private long noLong(int number) {
        return 4000000000000000000L - no(number);
    }

    private boolean here(int cask) {
        return cask >= 0 && cask < town.casks.size();
    }

    int letter(int c) {
        if (c < 0) {
            return no(-4);
        }
        if (c > 255 || letters.length() == 96) {
            return no(-6);
        }
        letters += (char) c;
        return letters.length();
    }

    int town() {
        String text = letters;
        letters = "";
        int first = firstKindOfFault(text);
        if (first >= 0) {
            return -1000 - first;
        }
        Town t = town;
        Matcher m = STATEMENT.matcher(text);
        int n = 0;
        while (m.find()) {
            t = behindStatement(t, m.group());
            if (t == null) {
                return -2000 - m.start();
            }
            n++;
        }
        town = t;
        return n;
    }

    /** The length of the longest beginning that a longer text may have; -1 if the text is a town. */
    private static int firstKindOfFault(String text) {
        Pattern all = Pattern.compile("(" + STATEMENT.pattern() + ")+");
        if (all.matcher(text).matches()) {
            return -1;
        }
        int good = 0;
        for (int end = 1; end <= text.length(); end++) {
            Matcher m = all.matcher(text.substring(0, end));
            if (m.matches() || m.hitEnd()) {
                good = end;
            } else {
                break;
            }
        }
        return good;
    }

    private static Town behindStatement(Town t, String s) {
        int v = s.length() == 12 ? 0 : Integer.parseInt(s.substring(1, s.length() - 1));
        switch (s.charAt(0)) {
            case 'r':
                return v <= 40 ? t.by(v, t.lent) : null;
            case 'l':
                return v >= 1 ? t.by(t.rate, v) : null;
            case 'e':
                return new Town(t.casks, t.rate, t.lent, v, t.year);
            case 'y':
                return v >= 1 && v <= 60 && t.year + v <= 999 ? t.after(v) : null;
            case 'p':
                return t.poured(v / 10000, v / 1000 % 10, v % 1000);
            default:
                int size = Integer.parseInt(s.substring(2, 5));
                int amount = Integer.parseInt(s.substring(5, 8));
                int strength = Integer.parseInt(s.substring(8, 10));
                if (size < 1 || size > 400 || amount > size || t.casks.size() == 7) {
                    return null;
                }
                List<Cask> more = new ArrayList<>(t.casks);
                more.add(new Cask(s.charAt(1), size, amount, strength, s.charAt(10) - '0', 0));
                return new Town(more, t.rate, t.lent, t.excise, t.year);
        }
    }

    int cask(int cask, int what) {
        if (!here(cask)) {
            return no(-1);
        }
        Cask c = town.casks.get(cask);
        int[] all = {KINDS.indexOf(c.kind), c.size, c.amount, c.strength, c.figure, c.taken};
        return what < 0 || what >= all.length ? no(-2) : all[what];
    }

    int set(int what, int v) {
        int[] was = {town.rate, town.lent, town.excise};
        int[] least = {0, 1, 0};
        int[] most = {40, 9, 9};
        if (what < 0 || what > 2) {
            return no(-2);
        }
        if (v < least[what]) {
            return no(-4);
        }
        if (v > most[what]) {
            return no(-6);
        }
        int[] is = was.clone();
        is[what] = v;
        town = new Town(town.casks, is[0], is[1], is[2], town.year);
        return was[what];
    }

    int fill(int cask, int v) {
        if (!here(cask)) {
            return no(-1);
        }
        Cask c = town.casks.get(cask);
        if (v < 0) {
            return no(-4);
        }
        if (v > c.size) {
            return no(-6);
        }
        town = town.with(cask, c.with(v, c.strength));
        return c.amount;
    }

    int takes(int cask, int a, int r) {
        if (!here(cask)) {
            return no(-1);
        }
        if (a < 0 || r < 0) {
            return no(-4);
        }
        if (a > 400 || r > 80) {
            return no(-6);
        }
        return town.casks.get(cask).takes(a, r);
    }

    int pour(int from, int to, int n) {
        if (!here(from) || !here(to) || from == to) {
            return no(-1);
        }
        if (n < 1) {
            return no(-4);
        }
        if (n > 400) {
            return no(-6);
        }
        Town then = town.poured(from, to, n);
        if (then == null) {
            return no(-3);
        }
        town = then;
        return then.casks.get(to).strength;
    }

    int years(int n) {
        if (n < 1) {
            return no(-4);
        }
        if (n > 60 || town.year + n > 999) {
            return no(-6);
        }
        town = town.after(n);
        return town.year;
    }

    /** The refusal of a number that is 0 .. most, then of a what; 0 of none. */
    private static int wrong(int n, int most, int what, int mostWhat) {
        return n < 0 ? -4 : n > most ? -6 : what < 0 || what > mostWhat ? -2 : 0;
    }

    int behind(int cask, int n, int what) {
        int wrong = here(cask) ? wrong(n, 200, what, 2) : -1;
        if (wrong != 0) {
            return no(wrong);
        }
        Cask c = town.after(n).casks.get(cask);
        return new int[] {c.amount, c.strength, c.taken}[what];
    }

    int allBehind(int n, int what) {
        int wrong = wrong(n, 200, what, 2);
        if (wrong != 0) {
            return no(wrong);
        }
        Town then = town.after(n);
        return new int[] {then.amounts(), then.taken(), first(then.casks.size(), i -> then.casks.get(i).amount)}[what];
    }

    /** What of 0 .. size less 1 has most, of several the least; -9 of none. */
    private static int first(int size, java.util.function.IntToLongFunction much) {
        int best = -9;
        for (int i = size - 1; i >= 0; i--) {
            if (best < 0 || much.applyAsLong(i) >= much.applyAsLong(best)) {
                best = i;
            }
        }
        return best;
    }

    private static long told(BigInteger above, BigInteger below, int part) {
        if (above.signum() == 0) {
            return part == 0 ? 0 : 1;
        }
        BigInteger g = above.gcd(below);
        return (part == 0 ? above : below).divide(g).longValueExact();
    }

    long theirs(int cask, int n, int part) {
        int wrong = cask == -1 || here(cask) ? wrong(n, 200, part, 1) : -1;
        if (wrong != 0) {
            return noLong(wrong);
        }
        Town then = town.after(n);
        int taken = cask == -1 ? then.taken() : then.casks.get(cask).taken;
        int amount = cask == -1 ? then.amounts() : then.casks.get(cask).amount;
        return told(BigInteger.valueOf(taken), BigInteger.valueOf(taken + amount), part);
    }

    int excise(int cask) {
        if (cask != -1 && !here(cask)) {
            return no(-1);
        }
        return cask == -1 ? town.duty() : town.duty(cask);
    }

    int exciseIn(int n) {
        int wrong = wrong(n, 200, 0, 0);
        if (wrong != 0) {
            return no(wrong);
        }
        int all = 0;
        for (int i = 1; i <= n; i++) {
            all += town.after(i).duty();
        }
        return all;
    }

    int low(int cask, int v) {
        int wrong = here(cask) ? wrong(v, 400, 0, 0) : -1;
        if (wrong != 0) {
            return no(wrong);
        }
        Town t = town;
        for (int i = 0; i <= 200; i++, t = t.afterYear()) {
            if (t.casks.get(cask).amount <= v) {
                return i;
            }
        }
        return -9;
    }

    int turns() {
        Town t = town;
        for (int i = 1; i <= 200; i++) {
            Town next = t.afterYear();
            int r = next.year % t.lent == 0 ? Math.min(80, 2 * t.rate) : t.rate;
            int take = 0;
            int back = 0;
            for (int k = 0; k < t.casks.size(); k++) {
                int part = t.casks.get(k).takes(t.casks.get(k).amount, r);
                take += part;
                back += next.casks.get(k).amount - (t.casks.get(k).amount - part);
            }
            if (back > take) {
                return i;
            }
            t = next;
        }
        return -9;
    }

    int hum(int cask) {
        if (!here(cask)) {
            return no(-1);
        }
        Town t = town;
        for (int i = 0; i <= 200; i++, t = t.afterYear()) {
            Cask c = t.casks.get(cask);
            int all = c.amount + c.taken;
            if (all > 0 && 2 * c.taken >= all) {
                return i;
            }
        }
        return -9;
    }

    int pourFor(int cask, int v) {
        int wrong = here(cask) ? wrong(v, 99, 0, 0) : -1;
        if (wrong != 0) {
            return no(wrong);
        }
        int leastAmount = 401;
        int from = -9;
        for (int k = 0; k < town.casks.size(); k++) {
            for (int n = 1; n < leastAmount; n++) {
                Town then = town.poured(k, cask, n);
                if (then != null && then.casks.get(cask).strength == v) {
                    leastAmount = n;
                    from = k;
                }
            }
        }
        return from < 0 ? -9 : 1000 * from + leastAmount;
    }

    int blend(int v) {
        int wrong = wrong(v, 99, 0, 0);
        if (wrong != 0) {
            return no(wrong);
        }
        TreeMap<Integer, Integer> byDistance = new TreeMap<>();
        for (int i = 0; i < town.casks.size(); i++) {
            for (int k = i + 1; k < town.casks.size(); k++) {
                Cask a = town.casks.get(i);
                Cask b = town.casks.get(k);
                if (a.amount != 0 || b.amount != 0) {
                    int s = (a.strength * a.amount + b.strength * b.amount) / (a.amount + b.amount);
                    byDistance.merge(Math.abs(s - v), 10 * i + k, Math::min);
                }
            }
        }
        return byDistance.isEmpty() ? -9 : byDistance.firstEntry().getValue();
    }

    int spread() {
        int[] s = town.casks.stream().filter(c -> c.amount > 0).mapToInt(Cask::strength).sorted().toArray();
        return s.length == 0 ? -9 : s[s.length - 1] - s[0];
    }

    int layDown(int n) {
        int wrong = wrong(n, 200, 0, 0);
        if (wrong != 0) {
            return no(wrong);
        }
        Town then = town.after(n);
        return first(then.casks.size(), i -> (long) then.casks.get(i).amount * then.casks.get(i).strength);
    }

    int sell(int n) {
        int wrong = wrong(n, 200, 0, 0);
        if (wrong != 0) {
            return no(wrong);
        }
        Town then = town.after(n);
        // All amounts are below 401: by their common multiple each fraction is a whole number.
        BigInteger all = BigInteger.ONE;
        for (Cask c : town.casks) {
            if (c.amount > 0) {
                all = all.multiply(BigInteger.valueOf(c.amount));
            }
        }
        int best = -9;
        BigInteger least = null;
        for (int i = 0; i < town.casks.size(); i++) {
            int is = town.casks.get(i).amount;
            if (is > 0) {
                Cask c = then.casks.get(i);
                BigInteger worth = BigInteger.valueOf((long) c.amount * c.strength).multiply(all).divide(BigInteger.valueOf(is));
                if (least == null || worth.compareTo(least) < 0) {
                    least = worth;
                    best = i;
                }
            }
        }
        return best;
    }

    int treaty(int n) {
        int wrong = wrong(n, 200, 0, 0);
        if (wrong != 0) {
            return no(wrong);
        }
        Map<Integer, Town> by = new LinkedHashMap<>();
        for (int pair : new int[] {0, 1, 10, 11}) {
            by.put(pair, town.by(pair % 10 == 0 ? town.rate : town.rate / 2, pair < 10 ? 2 : 8).after(n));
        }
        for (int pair : by.keySet()) {
            int otherTown = pair < 10 ? pair + 10 : pair - 10;
            int otherAngels = pair % 10 == 0 ? pair + 1 : pair - 1;
            if (by.get(otherTown).amounts() <= by.get(pair).amounts() && by.get(otherAngels).taken() <= by.get(pair).taken()) {
                return pair;
            }
        }
        return -9;
    }

    int bestSet(int n, int what) {
        int wrong = wrong(n, 200, what, 1);
        if (wrong != 0) {
            return no(wrong);
        }
        int best = -9;
        long above = 0;
        long below = 1;
        for (int v = what == 0 ? 0 : 1; v <= (what == 0 ? 40 : 9); v++) {
            Town then = (what == 0 ? town.by(v, town.lent) : town.by(town.rate, v)).after(n);
            long a = then.taken();
            long b = Math.max(1, then.taken() + then.amounts());
            if (best < 0 || a * below > above * b) {
                best = v;
                above = a;
                below = b;
            }
        }
        return best;
    }

    int iron(int n) {
        int wrong = wrong(n, 200, 0, 0);
        if (wrong != 0) {
            return no(wrong);
        }
        int best = first(town.casks.size(), i -> town.with(i, town.casks.get(i).as('i')).after(n).amounts());
        return best >= 0 && town.with(best, town.casks.get(best).as('i')).after(n).amounts() > town.after(n).amounts() ? best : -9;
    }

    int row(int v) {
        if (v < 0) {
            return no(-4);
        }
        if (v > 99 || row.size() >= 12) {
            return no(-6);
        }
        row.add(v);
        return row.size();
    }

    private static List<Integer> rowOf(Town t, int cask, int size) {
        List<Integer> told = new ArrayList<>();
        for (Town then = t; told.size() < size; then = then.afterYear()) {
            int a = then.casks.get(cask).amount;
            told.add(a > 99 ? 99 : a);
        }
        return told;
    }

    int which(int cask, int what) {
        if (!here(cask)) {
            return no(-1);
        }
        if (what != 0 && what != 1) {
            return no(-2);
        }
        int bits = 0;
        int rates = 0;
        for (int k = 0; k < 6; k++) {
            Town t = town.with(cask, town.casks.get(cask).as(KINDS.charAt(k)));
            bits += rowOf(t, cask, row.size()).equals(row) ? (int) Math.pow(2, k) : 0;
        }
        for (int r = 40; r >= 0; r--) {
            rates += rowOf(town.by(r, town.lent), cask, row.size()).equals(row) ? 1 : 0;
        }
        return what == 0 ? bits : rates;
    }

    int judge(int cask) {
        if (!here(cask)) {
            return no(-1);
        }
        List<Integer> right = rowOf(town, cask, row.size());
        int answer = -9;
        for (int i = row.size() - 1; i >= 0; i--) {
            if (!row.get(i).equals(right.get(i))) {
                answer = i;
            }
        }
        row = new ArrayList<>();
        return answer;
    }

    /** How many of t to the n equally likely courses leave v or more. */
    private BigInteger courses(Cask c, int year, int v, int n, int t) {
        if (n == 0) {
            return c.amount >= v ? BigInteger.ONE : BigInteger.ZERO;
        }
        BigInteger lent = courses(c.afterYear(year + 1, Math.min(80, 2 * town.rate)), year + 1, v, n - 1, t);
        BigInteger none = courses(c.afterYear(year + 1, town.rate), year + 1, v, n - 1, t);
        return lent.add(none.multiply(BigInteger.valueOf(t - 1)));
    }

    long chance(int cask, int v, int n, int t, int part) {
        if (!here(cask)) {
            return noLong(-1);
        }
        if (v < 0 || n < 0 || t < 2) {
            return noLong(-4);
        }
        if (v > 400 || n > 8 || t > 20) {
            return noLong(-6);
        }
        if (part != 0 && part != 1) {
            return noLong(-2);
        }
        return told(courses(town.casks.get(cask), town.year, v, n, t), BigInteger.valueOf(t).pow(n), part);
    }

    int lots(int n, int z, int what) {
        if (n < 1) {
            return no(-4);
        }
        if (n > 20) {
            return no(-6);
        }
        if (what != 0 && what != 1) {
            return no(-2);
        }
        BigInteger seed = BigInteger.valueOf(z);
        BigInteger all = BigInteger.TWO.pow(32);
        int sum = 0;
        for (int i = 0; i < n; i++) {
            seed = seed.multiply(BigInteger.valueOf(1664525)).add(BigInteger.valueOf(1013904223)).mod(all);
            int draw = seed.mod(BigInteger.TWO.pow(31)).divide(BigInteger.valueOf(256)).mod(BigInteger.valueOf(9)).intValue();
            Town then = town.by(town.rate, draw + 1).after(20);
            sum += what == 0 ? then.amounts() : then.taken();
        }
        return sum;
    }

    int image() {
        image = town;
        return town.year;
    }

    int on() {
        if (image == null) {
            return no(-3);
        }
        town = image;
        return town.year;
    }

    int count(int what) {
        int[] first = {town.casks.size(), town.year, town.rate, town.lent, town.excise, town.amounts(), town.taken(),
            row.size(), letters.length()};
        if (what >= 0 && what < first.length) {
            return first[what];
        }
        return what >= 11 && what <= 16 ? refused.getOrDefault(10 - what, 0) : -9;
    }
}
