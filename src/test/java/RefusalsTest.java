import java.lang.reflect.Method;
import java.util.Arrays;
import java.util.List;

/**
 * The REFUSALS: each promise's reasons in the order in which it tells them, by every combination of numbers that are
 * just taken and just not; a refused call counts one more of its number and changes nothing else.
 */
public final class RefusalsTest {
    private static final Due T = new Due();
    private static final int LEAST = Integer.MIN_VALUE;
    private static final int GREATEST = Integer.MAX_VALUE;
    private static final int[] SIZES = {100, 100, 50, 400, 1, 250, 100};
    private static final String SEVEN =
            "co100100500;cm100090600;cb050030404;ci400000990;cs001001009;ch250120205;co100040302;";
    private static final List<String> CHANGING =
            List.of("letter", "town", "set", "fill", "pour", "years", "row", "judge", "image", "on");

    /** An object in the state that is looked at; each call of make() gives another one just like it. */
    private interface State {
        TheAngelsWantMore make();
    }

    public static void main(String[] args) throws Exception {
        for (int casks : new int[] {0, 7}) {
            State state = casks == 0 ? RefusalsTest::emptyTown : RefusalsTest::sevenCasks;
            T.part("REFUSALS with " + casks + " casks");
            ofTheTown(state, casks);
            ofThoughts(state, casks);
            ofYearsToCome(state, casks);
            ofChoosing(state);
            ofTheRow(state, casks);
        }
        pour();
        whereThereIsNoRoom();
        onWithoutAnImage();
        aFaultChangesNothing();
        nothingToBeToldIsNoRefusal();
        T.end();
    }

    /** The numbers least .. most with what is just outside of them, and each one's refusal (0 of none). */
    private static int[][] range(int least, int most) {
        return new int[][] {{least, 0}, {most, 0}, {least - 1, -4}, {LEAST, -4}, {most + 1, -6}, {GREATEST, -6}};
    }

    private static int[][] what(int most) {
        return new int[][] {{0, 0}, {most, 0}, {-1, -2}, {most + 1, -2}, {LEAST, -2}, {GREATEST, -2}};
    }

    private static int[][] cask(int casks) {
        int here = casks == 0 ? -1 : 0;
        return new int[][] {{0, here}, {casks - 1, here}, {-1, -1}, {casks, -1}, {LEAST, -1}, {GREATEST, -1}};
    }

    private static int[][] caskOrAll(int casks) {
        int here = casks == 0 ? -1 : 0;
        return new int[][] {{-1, 0}, {0, here}, {casks, -1}, {-2, -1}, {LEAST, -1}, {GREATEST, -1}};
    }

    private static int[][] any(int... numbers) {
        int[][] all = new int[numbers.length][];
        for (int i = 0; i < numbers.length; i++) {
            all[i] = new int[] {numbers[i], 0};
        }
        return all;
    }

    private static void ofTheTown(State state, int casks) throws Exception {
        refused(state, "letter", "-4 -6", range(0, 255));
        refused(state, "cask", "-1 -2", cask(casks), what(5));
        for (int i = 0; i < casks; i++) {
            int[][] one = {{i, 0}, {-1, -1}, {casks, -1}, {LEAST, -1}, {GREATEST, -1}};
            refused(state, "fill", "-1 -4 -6", one, range(0, SIZES[i]));
        }
        refused(state, "fill", "-1 -4 -6", new int[][] {{casks, -1}, {-1, -1}}, range(0, 400));
        refused(state, "takes", "-1 -4 -6", cask(casks), range(0, 400), range(0, 80));
        refused(state, "years", "-4 -6", range(1, 60));
    }

    private static void ofThoughts(State state, int casks) throws Exception {
        refused(state, "behind", "-1 -4 -6 -2", cask(casks), range(0, 200), what(2));
        refused(state, "allBehind", "-4 -6 -2", range(0, 200), what(2));
        refused(state, "theirs", "-1 -4 -6 -2", caskOrAll(casks), range(0, 200), what(1));
        refused(state, "excise", "-1", caskOrAll(casks));
        refused(state, "exciseIn", "-4 -6", range(0, 200));
        refused(state, "low", "-1 -4 -6", cask(casks), range(0, 400));
        refused(state, "hum", "-1", cask(casks));
    }

    private static void ofYearsToCome(State state, int casks) throws Exception {
        refused(state, "pourFor", "-1 -4 -6", cask(casks), range(0, 99));
        refused(state, "blend", "-4 -6", range(0, 99));
        refused(state, "layDown", "-4 -6", range(0, 200));
        refused(state, "sell", "-4 -6", range(0, 200));
        refused(state, "treaty", "-4 -6", range(0, 200));
        refused(state, "iron", "-4 -6", range(0, 200));
        refused(state, "chance", "-1 -4 -6 -2", cask(casks), range(0, 400), range(0, 8), range(2, 20), what(1));
        refused(state, "lots", "-4 -6 -2", range(1, 20), any(LEAST, -1, 0, GREATEST), what(1));
    }

    private static void ofChoosing(State state) throws Exception {
        int[][] ends = {{0, 40}, {1, 9}, {0, 9}};
        for (int i = 0; i < ends.length; i++) {
            int[][] which = {{i, 0}, {-1, -2}, {3, -2}, {LEAST, -2}, {GREATEST, -2}};
            refused(state, "set", "-2 -4 -6", which, range(ends[i][0], ends[i][1]));
        }
        refused(state, "bestSet", "-4 -6 -2", range(0, 200), what(1));
    }

    private static void ofTheRow(State state, int casks) throws Exception {
        refused(state, "row", "-4 -6", range(0, 99));
        refused(state, "which", "-1 -2", cask(casks), what(1));
        refused(state, "judge", "-1", cask(casks));
        for (String name : new String[] {"town", "turns", "spread", "image", "on"}) {
            refused(state, name, "");
        }
        refused(state, "count", "", any(LEAST, -1, 0, 8, 9, 10, 11, 16, 17, GREATEST));
    }

    /** Each combination of the numbers: the first reason of the order that fits one of them is the answer. */
    private static void refused(State state, String name, String order, int[][]... numbers) throws Exception {
        Class<?>[] ints = new Class<?>[numbers.length];
        Arrays.fill(ints, int.class);
        Method method = TheAngelsWantMore.class.getMethod(name, ints);
        int all = 1;
        for (int[][] each : numbers) {
            all *= each.length;
        }
        for (int k = 0; k < all; k++) {
            Object[] with = new Object[numbers.length];
            StringBuilder call = new StringBuilder(name);
            String reasons = "";
            for (int i = 0, rest = k; i < numbers.length; i++, rest /= numbers[i - 1].length) {
                int[] one = numbers[i][rest % numbers[i].length];
                with[i] = one[0];
                reasons += one[1] + " ";
                call.append(' ').append(one[0]);
            }
            int due = 0;
            for (String reason : order.isEmpty() ? new String[0] : order.split(" ")) {
                if (due == 0 && (" " + reasons).contains(" " + reason + " ")) {
                    due = Integer.parseInt(reason);
                }
            }
            TheAngelsWantMore x = state.make();
            long got = ((Number) method.invoke(x, with)).longValue();
            boolean isLong = method.getReturnType() == long.class;
            if (due != 0) {
                T.due(call.toString(), got, isLong ? Due.refused(due) : due);
                onlyCounted(call.toString(), x, state.make(), due);
            } else {
                T.due(call + " is no refusal", got >= 0 && got < 4000000000000000000L || got == -9 ? 1 : 0, 1);
                notCounted(call.toString(), x, state.make());
                if (!CHANGING.contains(name)) {
                    T.due("all else behind " + call, all(x).equals(all(state.make())) ? 1 : 0, 1);
                }
            }
        }
    }

    /** x, to which one call was refused, and another one like it: only how many there were of that number differs. */
    private static void onlyCounted(String call, TheAngelsWantMore x, TheAngelsWantMore other, int refusal) {
        for (int number = -1; number >= -6; number--) {
            int more = number == refusal ? 1 : 0;
            T.due("count of " + number + " behind " + call, x.count(10 - number), other.count(10 - number) + more);
        }
        T.due("all else behind " + call, all(x).equals(all(other)) ? 1 : 0, 1);
    }

    private static void notCounted(String call, TheAngelsWantMore x, TheAngelsWantMore other) {
        for (int number = -1; number >= -6; number--) {
            T.due("count of " + number + " behind " + call, x.count(10 - number), other.count(10 - number));
        }
    }

    /** All that can be found out of x but how many refusals there were: what is counted, casks, row, letters, image. */
    private static String all(TheAngelsWantMore x) {
        StringBuilder b = new StringBuilder(Due.state(x));
        b.append(" row ").append(x.count(7)).append(' ').append(x.which(0, 0)).append(' ').append(x.which(0, 1));
        b.append(' ').append(x.judge(0)).append(" letters ").append(x.count(8)).append(' ').append(x.town());
        b.append(Due.state(x)).append(" image ").append(x.on()).append(Due.state(x));
        return b.toString();
    }

    /** No casks, but choices, years, a row, letters, an image and some refusals. */
    private static TheAngelsWantMore emptyTown() {
        TheAngelsWantMore x = Due.townOf("r20;l3;e5;y04;");
        x.image();
        Due.town(x, "r05;l9;e1;y01;");
        return withRowAndLetters(x, 50, 51);
    }

    /** Seven casks, the first with 64 and 36 taken, and 52 behind the next year; an image from years before. */
    private static TheAngelsWantMore sevenCasks() {
        TheAngelsWantMore x = Due.townOf(SEVEN);
        x.set(2, 7);
        x.set(0, 20);
        x.image();
        x.years(2);
        x.pour(3, 1, 5);
        return withRowAndLetters(x, 64, 52);
    }

    private static TheAngelsWantMore withRowAndLetters(TheAngelsWantMore x, int first, int second) {
        x.row(first);
        x.row(second);
        x.letter('r');
        x.letter('0');
        x.letter('7');
        x.letter(';');
        x.cask(-1, 0);
        x.set(-1, 0);
        x.blend(-1);
        x.blend(100);
        return x;
    }

    private static void pour() {
        T.part("8 pour: -1 either (one twice, too); -4 below 1; -6 400; -3 it can not be");
        State two = () -> withRowAndLetters(imaged("co200100400;cm120070550;"), 99, 90);
        int[] casks = {0, 1, -1, 2, LEAST, GREATEST};
        // There are 100 in cask 0, room for 50 in cask 1; 70 in cask 1, room for 100 in cask 0.
        int[] numbers = {1, 50, 51, 70, 71, 100, 101, 400, 0, -1, LEAST, 401, GREATEST};
        for (int from : casks) {
            for (int to : casks) {
                for (int n : numbers) {
                    boolean here = from >= 0 && from < 2 && to >= 0 && to < 2 && from != to;
                    int most = from == 0 ? 50 : 70;
                    int due = !here ? -1 : n < 1 ? -4 : n > 400 ? -6 : n > most ? -3 : 0;
                    TheAngelsWantMore x = two.make();
                    String call = "pour " + from + " " + to + " " + n;
                    int got = x.pour(from, to, n);
                    if (due != 0) {
                        T.due(call, got, due);
                        onlyCounted(call, x, two.make(), due);
                    } else {
                        T.due(call, got, from == 0 ? (70 * 55 + n * 40) / (70 + n) : (100 * 40 + n * 55) / (100 + n));
                        notCounted(call, x, two.make());
                    }
                }
            }
        }
    }

    private static TheAngelsWantMore imaged(String text) {
        TheAngelsWantMore x = Due.townOf(text);
        x.image();
        x.set(1, 2);
        return x;
    }

    private static void whereThereIsNoRoom() throws Exception {
        T.part("2 letter: -4; -6 (255; 96, too)");
        State full = () -> {
            TheAngelsWantMore x = imaged("co100100500;");
            Due.tell(x, SEVEN.substring(0, 72) + "r10;r10;l4;l4;e2;y01;e3;");
            return x;
        };
        int[][] letters = {{0, -6}, {'c', -6}, {255, -6}, {256, -6}, {GREATEST, -6}, {-1, -4}, {LEAST, -4}};
        refused(full, "letter", "-4 -6", letters);
        T.part("26 row: -4; -6 (99; 12, too)");
        State told = () -> {
            TheAngelsWantMore x = imaged("co100100500;");
            for (int i = 0; i < 12; i++) {
                x.row(99);
            }
            return x;
        };
        int[][] numbers = {{0, -6}, {99, -6}, {100, -6}, {GREATEST, -6}, {-1, -4}, {LEAST, -4}};
        refused(told, "row", "-4 -6", numbers);
        T.part("9 years: -4; -6 (60; YEAR above 999)");
        for (int year : new int[] {999, 998, 940, 939}) {
            State late = () -> inYear(year);
            int most = Math.min(60, 999 - year);
            int[][] years = {{0, -4}, {-1, -4}, {LEAST, -4}, {61, -6}, {GREATEST, -6}, {most + 1, -6}, {most, most == 0 ? -4 : 0}};
            refused(late, "years", "-4 -6", years);
        }
    }

    private static TheAngelsWantMore inYear(int year) {
        TheAngelsWantMore x = imaged("co100100500;");
        for (int left = year; left > 0; left -= 60) {
            x.years(Math.min(60, left));
        }
        T.due("the year", x.count(1), year);
        return x;
    }

    private static void onWithoutAnImage() throws Exception {
        T.part("32 on: -3 there is none");
        TheAngelsWantMore x = new TheAngelsWantMore();
        TheAngelsWantMore other = new TheAngelsWantMore();
        T.due("on", x.on(), -3);
        T.due("on once more", x.on(), -3);
        T.due("count of -3", x.count(13), 2);
        Due.town(x, SEVEN);
        Due.town(other, SEVEN);
        T.due("on with casks", x.on(), -3);
        T.due("all else", Due.state(x).equals(Due.state(other)) ? 1 : 0, 1);
        x.image();
        T.due("on from one", x.on(), 0);
        T.due("count of -3", x.count(13), 3);
    }

    /** A TOWN with a FAULT: the letters are no more, nothing else comes, and nothing is counted. */
    private static void aFaultChangesNothing() {
        T.part("3 town: the FAULT (nothing is counted); with one nothing comes");
        String[] wrong = {"", "x", "r10", "r10;;", "c", "r41;", "r11;l0;", "e9;y00;", "y60;y61;", "r39;p11001;", "p01001;p01400;",
            "e1;co100000000;", "p01101;", "l2;p99001;", "y01;p01000;", "y01;p01401;"};
        for (String text : wrong) {
            State seven = () -> {
                TheAngelsWantMore x = Due.townOf(SEVEN);
                x.fill(1, 99);
                x.image();
                x.years(2);
                x.row(64);
                return x;
            };
            TheAngelsWantMore x = seven.make();
            int answer = Due.town(x, text);
            T.due("town of " + text + " is a fault", answer <= -1000 && answer > -3000 ? 1 : 0, 1);
            T.due("letters behind " + text, x.count(8), 0);
            notCounted("town of " + text, x, seven.make());
            T.due("all else behind " + text, all(x).equals(all(seven.make())) ? 1 : 0, 1);
        }
    }

    /** -9 is no refusal: it is not counted, and nothing changes. */
    private static void nothingToBeToldIsNoRefusal() throws Exception {
        T.part("-9 is not counted");
        State empty = RefusalsTest::emptyTown;
        for (String call : new String[] {"turns", "spread"}) {
            nothingTold(empty, call);
        }
        for (String call : new String[] {"blend", "layDown", "sell", "iron"}) {
            nothingTold(empty, call, 5);
        }
        nothingTold(empty, "allBehind", 5, 2);
        nothingTold(empty, "count", 9);
        State one = () -> withRowAndLetters(imaged("ci100050500;"), 50, 50);
        nothingTold(one, "turns");
        nothingTold(one, "hum", 0);
        nothingTold(one, "low", 0, 49);
        nothingTold(one, "pourFor", 0, 50);
        nothingTold(one, "blend", 50);
        nothingTold(one, "iron", 5);
        State nothing = () -> withRowAndLetters(imaged("co100000500;co100000400;"), 0, 0);
        nothingTold(nothing, "spread");
        nothingTold(nothing, "blend", 50);
        nothingTold(nothing, "sell", 5);
        State unkept = () -> withRowAndLetters(Due.townOf("cb100011505;"), 11, 10);
        nothingTold(unkept, "treaty", 7);
    }

    private static void nothingTold(State state, String name, int... numbers) throws Exception {
        Class<?>[] ints = new Class<?>[numbers.length];
        Object[] with = new Object[numbers.length];
        for (int i = 0; i < numbers.length; i++) {
            ints[i] = int.class;
            with[i] = numbers[i];
        }
        TheAngelsWantMore x = state.make();
        String call = name + Arrays.toString(numbers);
        T.due(call, ((Number) TheAngelsWantMore.class.getMethod(name, ints).invoke(x, with)).longValue(), -9);
        onlyCounted(call, x, state.make(), 0);
    }
}
