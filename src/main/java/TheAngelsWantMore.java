/** A town of casks from which the angels take their part; ../shared/DOC.md says what each call answers. */
public final class TheAngelsWantMore {
    private static final int NONE = -9;

    private static final int FINE = 0;
    private static final int NOBODY = -1;
    private static final int OTHER = -2;
    private static final int STATE = -3;
    private static final int BELOW = -4;
    private static final int ROOM = -6;
    private static final long LONG_REFUSED = 4000000000000000000L;

    private static final int NO_SUCH_TEXT = -1000;
    private static final int NOT_AS_IT_MUST_BE = -2000;

    private static final int MONKS = 1;
    private static final int BRANDY = 2;
    private static final int IRON = 3;
    private static final int SHERRY = 4;
    private static final int HUMMING = 5;
    private static final int KINDS = 6;
    private static final String KIND_LETTERS = "ombish";

    private static final int RATE = 0;
    private static final int LENT = 1;
    private static final int EXCISE = 2;

    private static final int MOST_CASKS = 7;
    private static final int MOST_AMOUNT = 400;
    private static final int MOST_STRENGTH = 99;
    private static final int MOST_RATE = 40;
    private static final int MOST_LENT_RATE = 80;
    private static final int MOST_YEAR = 999;
    private static final int MOST_YEARS = 60;
    private static final int FAR = 200;

    private static final int MOST_LETTERS = 96;
    private static final int LAST_LETTER = 255;
    private static final int MOST_IN_ROW = 12;
    private static final int MOST_TOLD = 99;

    private static final int MOST_BY_CHANCE = 8;
    private static final int LEAST_ODDS = 2;
    private static final int MOST_ODDS = 20;
    private static final int MOST_LOTS = 20;
    private static final int YEARS_OF_A_LOT = 20;

    private final Town now = new Town();
    // One town for all that is only thought of, so that no call makes an object.
    private final Town mind = new Town();
    private final Town kept = new Town();
    private boolean imaged = false;
    private final Letters letters = new Letters();
    private final int[] told = new int[MOST_IN_ROW];
    private int toldCount = 0;
    private final int[] refusals = new int[7];

    public TheAngelsWantMore() {
    }

    public int letter(int c) {
        int fault = rangeFault(c, 0, LAST_LETTER);
        if (fault == FINE && letters.isFull()) {
            fault = ROOM;
        }
        return fault == FINE ? letters.add(c) : refuse(fault);
    }

    public int town() {
        int answer = readLetters();
        letters.forget();
        return answer;
    }

    public int cask(int cask, int what) {
        int fault = firstOf(now.caskFault(cask), whatFault(what, 5), FINE);
        if (fault != FINE) {
            return refuse(fault);
        }
        Cask one = now.at(cask);
        switch (what) {
            case 0: return one.kind;
            case 1: return one.size;
            case 2: return one.amount;
            case 3: return one.strength;
            case 4: return one.figure;
            default: return one.taken;
        }
    }

    public int set(int what, int v) {
        int was = now.chosen(what);
        int fault = now.choose(what, v);
        return fault == FINE ? was : refuse(fault);
    }

    public int fill(int cask, int v) {
        Cask one = now.at(cask);
        int fault = firstOf(now.caskFault(cask), rangeFault(v, 0, one.size), FINE);
        if (fault != FINE) {
            return refuse(fault);
        }
        int was = one.amount;
        one.amount = v;
        return was;
    }

    public int takes(int cask, int a, int r) {
        int fault = now.caskFault(cask);
        if (fault == FINE) {
            fault = a < 0 || r < 0 ? BELOW : a > MOST_AMOUNT || r > MOST_LENT_RATE ? ROOM : FINE;
        }
        return fault == FINE ? now.at(cask).angelsPart(a, r) : refuse(fault);
    }

    public int pour(int from, int to, int n) {
        int fault = now.pourOver(from, to, n);
        return fault == FINE ? now.at(to).strength : refuse(fault);
    }

    public int years(int n) {
        int fault = now.liveOn(n);
        return fault == FINE ? now.year : refuse(fault);
    }

    public int behind(int cask, int n, int what) {
        int fault = firstOf(now.caskFault(cask), yearsFault(n), whatFault(what, 2));
        if (fault != FINE) {
            return refuse(fault);
        }
        thinkOn(n);
        Cask one = mind.at(cask);
        return what == 0 ? one.amount : what == 1 ? one.strength : one.taken;
    }

    public int allBehind(int n, int what) {
        int fault = firstOf(yearsFault(n), whatFault(what, 2), FINE);
        if (fault != FINE) {
            return refuse(fault);
        }
        thinkOn(n);
        return what == 0 ? mind.allAmounts() : what == 1 ? mind.allTaken() : mind.fullest();
    }

    public long theirs(int cask, int n, int part) {
        int fault = firstOf(caskOrAllFault(cask), yearsFault(n), whatFault(part, 1));
        if (fault != FINE) {
            return refuseLong(fault);
        }
        thinkOn(n);
        long amount = cask < 0 ? mind.allAmounts() : mind.at(cask).amount;
        long taken = cask < 0 ? mind.allTaken() : mind.at(cask).taken;
        return partOf(taken, amount + taken, part);
    }

    public int excise(int cask) {
        int fault = caskOrAllFault(cask);
        if (fault != FINE) {
            return refuse(fault);
        }
        return cask < 0 ? now.dutyOfAll() : now.dutyOf(cask);
    }

    public int exciseIn(int n) {
        int fault = yearsFault(n);
        if (fault != FINE) {
            return refuse(fault);
        }
        int duty = 0;
        mind.become(now);
        for (int i = 0; i < n; i++) {
            mind.goOn(1);
            duty += mind.dutyOfAll();
        }
        return duty;
    }

    public int low(int cask, int v) {
        int fault = firstOf(now.caskFault(cask), rangeFault(v, 0, MOST_AMOUNT), FINE);
        if (fault != FINE) {
            return refuse(fault);
        }
        mind.become(now);
        for (int i = 0; i <= FAR; i++) {
            if (mind.at(cask).amount <= v) {
                return i;
            }
            mind.goOn(1);
        }
        return NONE;
    }

    public int turns() {
        mind.become(now);
        for (int i = 1; i <= FAR; i++) {
            // TAKEN grows by what they take and falls by what comes back, so it falls in all just when more comes back.
            int before = mind.allTaken();
            mind.goOn(1);
            if (mind.allTaken() < before) {
                return i;
            }
        }
        return NONE;
    }

    public int hum(int cask) {
        int fault = now.caskFault(cask);
        if (fault != FINE) {
            return refuse(fault);
        }
        mind.become(now);
        for (int i = 0; i <= FAR; i++) {
            if (mind.at(cask).isHalfTheirs()) {
                return i;
            }
            mind.goOn(1);
        }
        return NONE;
    }

    public int pourFor(int cask, int v) {
        int fault = firstOf(now.caskFault(cask), rangeFault(v, 0, MOST_STRENGTH), FINE);
        if (fault != FINE) {
            return refuse(fault);
        }
        for (int n = 1; n <= MOST_AMOUNT; n++) {
            for (int from = 0; from < now.count; from++) {
                if (now.pourFault(from, cask, n) == FINE && now.pouredStrength(from, cask, n) == v) {
                    return 1000 * from + n;
                }
            }
        }
        return NONE;
    }

    public int blend(int v) {
        int fault = rangeFault(v, 0, MOST_STRENGTH);
        if (fault != FINE) {
            return refuse(fault);
        }
        int best = NONE;
        int nearest = MOST_STRENGTH + 1;
        for (int one = 0; one < now.count; one++) {
            for (int two = one + 1; two < now.count; two++) {
                int blended = now.blended(one, two);
                if (blended >= 0 && Math.abs(blended - v) < nearest) {
                    nearest = Math.abs(blended - v);
                    best = 10 * one + two;
                }
            }
        }
        return best;
    }

    public int spread() {
        int least = MOST_STRENGTH + 1;
        int greatest = -1;
        for (int i = 0; i < now.count; i++) {
            Cask one = now.at(i);
            if (one.amount > 0) {
                least = Math.min(least, one.strength);
                greatest = Math.max(greatest, one.strength);
            }
        }
        return greatest < 0 ? NONE : greatest - least;
    }

    public int layDown(int n) {
        int fault = yearsFault(n);
        if (fault != FINE) {
            return refuse(fault);
        }
        thinkOn(n);
        int best = NONE;
        int most = -1;
        for (int i = 0; i < mind.count; i++) {
            if (mind.at(i).worth() > most) {
                most = mind.at(i).worth();
                best = i;
            }
        }
        return best;
    }

    public int sell(int n) {
        int fault = yearsFault(n);
        if (fault != FINE) {
            return refuse(fault);
        }
        thinkOn(n);
        int worst = NONE;
        for (int i = 0; i < now.count; i++) {
            if (now.at(i).amount > 0 && (worst < 0 || keepsLess(i, worst))) {
                worst = i;
            }
        }
        return worst;
    }

    public int treaty(int n) {
        int fault = yearsFault(n);
        if (fault != FINE) {
            return refuse(fault);
        }
        for (int ours = 0; ours < 2; ours++) {
            for (int theirs = 0; theirs < 2; theirs++) {
                if (bothKeep(n, ours, theirs)) {
                    return 10 * ours + theirs;
                }
            }
        }
        return NONE;
    }

    public int bestSet(int n, int what) {
        int fault = firstOf(yearsFault(n), whatFault(what, 1), FINE);
        if (fault != FINE) {
            return refuse(fault);
        }
        int best = NONE;
        int most = -1;
        for (int v = leastChoice(what); v <= mostChoice(what); v++) {
            mind.become(now);
            mind.choose(what, v);
            mind.goOn(n);
            // What is there and TAKEN make the same sum in every year, so THEIRS of all is most where TAKEN is.
            if (mind.allTaken() > most) {
                most = mind.allTaken();
                best = v;
            }
        }
        return best;
    }

    public int iron(int n) {
        int fault = yearsFault(n);
        if (fault != FINE) {
            return refuse(fault);
        }
        thinkOn(n);
        int best = NONE;
        int most = mind.allAmounts();
        for (int i = 0; i < now.count; i++) {
            mind.become(now);
            mind.at(i).kind = IRON;
            mind.goOn(n);
            if (mind.allAmounts() > most) {
                most = mind.allAmounts();
                best = i;
            }
        }
        return best;
    }

    public int row(int v) {
        int fault = rangeFault(v, 0, MOST_TOLD);
        if (fault == FINE && toldCount >= MOST_IN_ROW) {
            fault = ROOM;
        }
        if (fault != FINE) {
            return refuse(fault);
        }
        if (toldCount >= 0 && toldCount < told.length) {
            told[toldCount] = v;
            toldCount++;
        }
        return toldCount;
    }

    public int which(int cask, int what) {
        int fault = firstOf(now.caskFault(cask), whatFault(what, 1), FINE);
        if (fault != FINE) {
            return refuse(fault);
        }
        return what == 0 ? kindsByRow(cask) : ratesByRow(cask);
    }

    public int judge(int cask) {
        int fault = now.caskFault(cask);
        if (fault != FINE) {
            return refuse(fault);
        }
        mind.become(now);
        int answer = firstNotSo(cask);
        toldCount = 0;
        return answer;
    }

    public long chance(int cask, int v, int n, int t, int part) {
        int fault = firstOf(now.caskFault(cask), chanceFault(v, n, t), whatFault(part, 1));
        if (fault != FINE) {
            return refuseLong(fault);
        }
        long likely = 0;
        for (int lents = 0; lents < 1 << n; lents++) {
            if (amountByLents(cask, n, lents) >= v) {
                likely += power(t - 1, n - Integer.bitCount(lents));
            }
        }
        return partOf(likely, power(t, n), part);
    }

    public int lots(int n, int z, int what) {
        int fault = firstOf(rangeFault(n, 1, MOST_LOTS), whatFault(what, 1), FINE);
        if (fault != FINE) {
            return refuse(fault);
        }
        int seed = z;
        int sum = 0;
        for (int i = 0; i < n; i++) {
            seed = nextSeed(seed);
            mind.become(now);
            mind.choose(LENT, drawn(seed, 9) + 1);
            mind.goOn(YEARS_OF_A_LOT);
            sum += what == 0 ? mind.allAmounts() : mind.allTaken();
        }
        return sum;
    }

    public int image() {
        kept.become(now);
        imaged = true;
        return now.year;
    }

    public int on() {
        if (!imaged) {
            return refuse(STATE);
        }
        now.become(kept);
        return now.year;
    }

    public int count(int what) {
        switch (what) {
            case 0: return now.count;
            case 1: return now.year;
            case 2: return now.rate;
            case 3: return now.lent;
            case 4: return now.excise;
            case 5: return now.allAmounts();
            case 6: return now.allTaken();
            case 7: return toldCount;
            case 8: return letters.length;
            default: return what >= 11 && what <= 16 ? refused(what - 10) : NONE;
        }
    }

    private int refuse(int fault) {
        int at = -fault;
        if (at >= 0 && at < refusals.length) {
            refusals[at]++;
        }
        return fault;
    }

    private long refuseLong(int fault) {
        return LONG_REFUSED - refuse(fault);
    }

    private int refused(int at) {
        return at >= 0 && at < refusals.length ? refusals[at] : 0;
    }

    private static int firstOf(int one, int two, int three) {
        return one != FINE ? one : two != FINE ? two : three;
    }

    private static int rangeFault(int v, int least, int most) {
        return v < least ? BELOW : v > most ? ROOM : FINE;
    }

    private static int whatFault(int what, int most) {
        return what < 0 || what > most ? OTHER : FINE;
    }

    private static int yearsFault(int n) {
        return rangeFault(n, 0, FAR);
    }

    private int caskOrAllFault(int cask) {
        return cask == -1 ? FINE : now.caskFault(cask);
    }

    private static int chanceFault(int v, int n, int t) {
        if (v < 0 || n < 0 || t < LEAST_ODDS) {
            return BELOW;
        }
        return v > MOST_AMOUNT || n > MOST_BY_CHANCE || t > MOST_ODDS ? ROOM : FINE;
    }

    private static int leastChoice(int what) {
        return what == LENT ? 1 : 0;
    }

    private static int mostChoice(int what) {
        return what == RATE ? MOST_RATE : 9;
    }

    private int readLetters() {
        int wrong = letters.firstWrong();
        if (wrong >= 0) {
            return NO_SUCH_TEXT - wrong;
        }
        // The statements come in mind first: with a fault nothing of them may stand.
        mind.become(now);
        int statements = 0;
        int first = 0;
        for (int place = 0; place < letters.length; place++) {
            if (letters.at(place) == ';') {
                if (statementFault(first) != FINE) {
                    return NOT_AS_IT_MUST_BE - first;
                }
                statements++;
                first = place + 1;
            }
        }
        now.become(mind);
        return statements;
    }

    private int statementFault(int place) {
        int next = place + 1;
        switch (letters.at(place)) {
            case 'c':
                return caskComes(place);
            case 'r':
                return mind.choose(RATE, letters.number(next, 2));
            case 'l':
                return mind.choose(LENT, letters.number(next, 1));
            case 'e':
                return mind.choose(EXCISE, letters.number(next, 1));
            case 'p':
                return pourComes(place);
            default:
                return mind.liveOn(letters.number(next, 2));
        }
    }

    private int caskComes(int place) {
        return mind.addCask(letters.kind(place + 1), letters.number(place + 2, 3), letters.number(place + 5, 3),
                letters.number(place + 8, 2), letters.number(place + 10, 1));
    }

    private int pourComes(int place) {
        return mind.pourOver(letters.number(place + 1, 1), letters.number(place + 2, 1), letters.number(place + 3, 3));
    }

    private void thinkOn(int n) {
        mind.become(now);
        mind.goOn(n);
    }

    /** Whether one cask, as it is in mind, keeps less for its amount now than the other. */
    private boolean keepsLess(int one, int other) {
        long left = (long) mind.at(one).worth() * now.at(other).amount;
        long right = (long) mind.at(other).worth() * now.at(one).amount;
        return left < right;
    }

    private void thinkTreaty(int n, int ours, int theirs) {
        mind.become(now);
        mind.choose(LENT, ours == 0 ? 2 : 8);
        mind.choose(RATE, theirs == 0 ? now.rate : now.rate / 2);
        mind.goOn(n);
    }

    private boolean bothKeep(int n, int ours, int theirs) {
        thinkTreaty(n, ours, theirs);
        int amounts = mind.allAmounts();
        int taken = mind.allTaken();
        thinkTreaty(n, 1 - ours, theirs);
        if (mind.allAmounts() > amounts) {
            return false;
        }
        thinkTreaty(n, ours, 1 - theirs);
        return mind.allTaken() <= taken;
    }

    /** The first number of the row that the cask, as it is in mind, does not have. */
    private int firstNotSo(int cask) {
        for (int i = 0; i < toldCount && i < told.length; i++) {
            if (Math.min(mind.at(cask).amount, MOST_TOLD) != told[i]) {
                return i;
            }
            mind.goOn(1);
        }
        return NONE;
    }

    private int kindsByRow(int cask) {
        int kinds = 0;
        for (int kind = 0; kind < KINDS; kind++) {
            mind.become(now);
            mind.at(cask).kind = kind;
            if (firstNotSo(cask) == NONE) {
                kinds |= 1 << kind;
            }
        }
        return kinds;
    }

    private int ratesByRow(int cask) {
        int rates = 0;
        for (int rate = 0; rate <= MOST_RATE; rate++) {
            mind.become(now);
            mind.choose(RATE, rate);
            if (firstNotSo(cask) == NONE) {
                rates++;
            }
        }
        return rates;
    }

    /** The amount of a cask behind n years, of which those are a Lent whose bits are set. */
    private int amountByLents(int cask, int n, int lents) {
        Cask one = mind.at(cask);
        one.become(now.at(cask));
        for (int i = 0; i < n; i++) {
            one.goOn(now.rateBy((lents >> i & 1) == 1), now.year + 1 + i);
        }
        return one.amount;
    }

    private static int nextSeed(int z) {
        return z * 1664525 + 1013904223;
    }

    private static int drawn(int z, int below) {
        return below > 0 ? ((z & 0x7fffffff) / 256) % below : 0;
    }

    private static long power(long base, int n) {
        long product = 1;
        for (int i = 0; i < n; i++) {
            product *= base;
        }
        return product;
    }

    private static long partOf(long above, long below, int part) {
        if (above == 0) {
            return part;
        }
        long common = commonDivisor(above, below);
        return common == 0 ? 0 : (part == 0 ? above : below) / common;
    }

    private static long commonDivisor(long one, long other) {
        long a = one;
        long b = other;
        // Euclid needs fewer than 100 steps for any two longs.
        for (int i = 0; i < 100 && b != 0; i++) {
            long rest = a % b;
            a = b;
            b = rest;
        }
        return a;
    }

    /** One cask, and what the angels do to it. */
    private static final class Cask {
        int kind;
        int size;
        int amount;
        int strength;
        int figure;
        int taken;

        void become(Cask other) {
            kind = other.kind;
            size = other.size;
            amount = other.amount;
            strength = other.strength;
            figure = other.figure;
            taken = other.taken;
        }

        int angelsPart(int a, int r) {
            int oaks = a * r / 100;
            switch (kind) {
                case MONKS: return oaks / 2;
                case IRON: return 0;
                case SHERRY: return Math.min(oaks + figure, a);
                case HUMMING: return Math.min(taken > a ? 2 * oaks : oaks, a);
                default: return oaks;
            }
        }

        int strengthIn(int year) {
            switch (kind) {
                case MONKS: return Math.max(strength - 1, 0);
                case BRANDY:
                case SHERRY: return year % 5 == 0 ? Math.min(strength + 1, MOST_STRENGTH) : strength;
                case HUMMING: return Math.min(strength + 1, MOST_STRENGTH);
                default: return strength;
            }
        }

        int sentBackIn(int year) {
            if (year % 7 != 0) {
                return 0;
            }
            switch (kind) {
                case BRANDY: return taken >= figure ? figure : 0;
                case SHERRY: return taken / 3;
                case MONKS:
                case IRON:
                case HUMMING: return 0;
                default: return taken / 2;
            }
        }

        void goOn(int rate, int year) {
            int part = angelsPart(amount, rate);
            taken += part;
            amount -= part;
            strength = strengthIn(year);
            int back = Math.min(sentBackIn(year), size - amount);
            taken -= back;
            amount += back;
        }

        boolean isHalfTheirs() {
            return taken > 0 && taken >= amount;
        }

        int worth() {
            return amount * strength;
        }
    }

    /** All that an image keeps: the casks, what is chosen, and the year. */
    private static final class Town {
        private final Cask[] casks = new Cask[MOST_CASKS];
        // Stands where no cask is, so that at() always answers one.
        private final Cask nobody = new Cask();
        int count = 0;
        int rate = 10;
        int lent = 4;
        int excise = 2;
        int year = 0;

        Town() {
            for (int i = 0; i < casks.length; i++) {
                casks[i] = new Cask();
            }
        }

        Cask at(int i) {
            Cask one = i >= 0 && i < casks.length ? casks[i] : nobody;
            return one == null ? nobody : one;
        }

        void become(Town other) {
            count = other.count;
            rate = other.rate;
            lent = other.lent;
            excise = other.excise;
            year = other.year;
            for (int i = 0; i < count; i++) {
                at(i).become(other.at(i));
            }
        }

        int caskFault(int i) {
            return i < 0 || i >= count ? NOBODY : FINE;
        }

        int addCask(int kind, int size, int amount, int strength, int figure) {
            int fault = firstOf(rangeFault(size, 1, MOST_AMOUNT), rangeFault(amount, 0, size),
                    count >= MOST_CASKS ? ROOM : FINE);
            if (fault != FINE) {
                return fault;
            }
            Cask one = at(count);
            one.kind = kind;
            one.size = size;
            one.amount = amount;
            one.strength = strength;
            one.figure = figure;
            one.taken = 0;
            count++;
            return FINE;
        }

        int chosen(int what) {
            return what == RATE ? rate : what == LENT ? lent : excise;
        }

        int choose(int what, int v) {
            int fault = firstOf(whatFault(what, EXCISE), rangeFault(v, leastChoice(what), mostChoice(what)), FINE);
            if (fault != FINE) {
                return fault;
            }
            switch (what) {
                case RATE: rate = v; break;
                case LENT: lent = v; break;
                default: excise = v;
            }
            return FINE;
        }

        int pourFault(int from, int to, int n) {
            int fault = firstOf(caskFault(from), caskFault(to), from == to ? NOBODY : FINE);
            if (fault == FINE) {
                fault = rangeFault(n, 1, MOST_AMOUNT);
            }
            if (fault != FINE) {
                return fault;
            }
            Cask other = at(to);
            return n > at(from).amount || n > other.size - other.amount ? STATE : FINE;
        }

        int pouredStrength(int from, int to, int n) {
            Cask other = at(to);
            int all = other.amount + n;
            return all > 0 ? (other.strength * other.amount + at(from).strength * n) / all : other.strength;
        }

        int pourOver(int from, int to, int n) {
            int fault = pourFault(from, to, n);
            if (fault == FINE) {
                at(to).strength = pouredStrength(from, to, n);
                at(to).amount += n;
                at(from).amount -= n;
            }
            return fault;
        }

        /** The strength of two casks together, or NONE of nothing in both. */
        int blended(int one, int two) {
            int all = at(one).amount + at(two).amount;
            return all > 0 ? (at(one).worth() + at(two).worth()) / all : NONE;
        }

        int rateBy(boolean inLent) {
            return inLent ? Math.min(2 * rate, MOST_LENT_RATE) : rate;
        }

        void goOn(int n) {
            for (int i = 0; i < n; i++) {
                year++;
                int r = rateBy(lent > 0 && year % lent == 0);
                for (int k = 0; k < count; k++) {
                    at(k).goOn(r, year);
                }
            }
        }

        int liveOn(int n) {
            int fault = rangeFault(n, 1, MOST_YEARS);
            if (fault == FINE && year + n > MOST_YEAR) {
                fault = ROOM;
            }
            if (fault == FINE) {
                goOn(n);
            }
            return fault;
        }

        int allAmounts() {
            int sum = 0;
            for (int i = 0; i < count; i++) {
                sum += at(i).amount;
            }
            return sum;
        }

        int allTaken() {
            int sum = 0;
            for (int i = 0; i < count; i++) {
                sum += at(i).taken;
            }
            return sum;
        }

        int fullest() {
            int best = NONE;
            for (int i = 0; i < count; i++) {
                if (best < 0 || at(i).amount > at(best).amount) {
                    best = i;
                }
            }
            return best;
        }

        int dutyOf(int i) {
            return (at(i).amount + at(i).taken) / 10 * excise;
        }

        int dutyOfAll() {
            int sum = 0;
            for (int i = 0; i < count; i++) {
                sum += dutyOf(i);
            }
            return sum;
        }
    }

    /** The letters that have come and are no town yet. */
    private static final class Letters {
        private static final int NO_LETTER = -1;

        private final int[] signs = new int[MOST_LETTERS];
        int length = 0;

        boolean isFull() {
            return length >= MOST_LETTERS;
        }

        int add(int c) {
            if (length >= 0 && length < signs.length) {
                signs[length] = c;
                length++;
            }
            return length;
        }

        void forget() {
            length = 0;
        }

        int at(int place) {
            return place >= 0 && place < length && place < signs.length ? signs[place] : NO_LETTER;
        }

        int kind(int place) {
            int c = at(place);
            return c < 0 ? NO_LETTER : KIND_LETTERS.indexOf((char) c);
        }

        int number(int place, int digits) {
            int number = 0;
            for (int i = 0; i < digits; i++) {
                number = 10 * number + at(place + i) - '0';
            }
            return number;
        }

        /** The first place at which no town can go on, or NONE. */
        int firstWrong() {
            String shape = "";
            int within = 0;
            for (int place = 0; place < length; place++) {
                if (within == shape.length()) {
                    shape = shapeOf(at(place));
                    within = 0;
                }
                if (within >= shape.length() || !fits(place, shape.charAt(within))) {
                    return place;
                }
                within++;
            }
            return length > 0 && within == shape.length() ? NONE : length;
        }

        private boolean fits(int place, char shape) {
            int c = at(place);
            switch (shape) {
                case '9': return c >= '0' && c <= '9';
                case 'k': return kind(place) >= 0;
                default: return c == shape;
            }
        }

        /** A statement by its first letter: k is a letter of a kind, 9 a digit, all else itself. */
        private static String shapeOf(int c) {
            switch (c) {
                case 'c': return "ck999999999;";
                case 'r': return "r99;";
                case 'l': return "l9;";
                case 'e': return "e9;";
                case 'p': return "p99999;";
                case 'y': return "y99;";
                default: return "";
            }
        }
    }
}
