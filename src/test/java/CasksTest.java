/** Promises 4 to 9: what a cask tells, what is chosen, filled, taken and poured, and the years that go by. */
public final class CasksTest {
    private static final Due T = new Due();
    private static final String SIX = "co300300400;cm200120500;cb100090403;ci050050600;cs250200302;ch100080205;";

    public static void main(String[] args) {
        cask();
        set();
        fill();
        takes();
        takesOfAHummingCask();
        pour();
        pourRefused();
        years();
        aYearOfEachKind();
        noMoreComesBackThanThereIsRoomFor();
        T.end();
    }

    private static void cask() {
        T.part("4 cask");
        TheAngelsWantMore x = Due.townOf(SIX);
        int[][] due = {{0, 300, 300, 40, 0, 0}, {1, 200, 120, 50, 0, 0}, {2, 100, 90, 40, 3, 0}, {3, 50, 50, 60, 0, 0},
            {4, 250, 200, 30, 2, 0}, {5, 100, 80, 20, 5, 0}};
        for (int cask = 0; cask < 6; cask++) {
            for (int what = 0; what < 6; what++) {
                T.due("cask(" + cask + ", " + what + ")", x.cask(cask, what), due[cask][what]);
            }
        }
        for (int cask : new int[] {-1, 6, 7, 8, Integer.MIN_VALUE, Integer.MAX_VALUE}) {
            T.due("cask(" + cask + ", 0)", x.cask(cask, 0), -1);
            T.due("cask(" + cask + ", 9)", x.cask(cask, 9), -1);
        }
        for (int what : new int[] {-1, 6, Integer.MIN_VALUE, Integer.MAX_VALUE}) {
            T.due("cask(0, " + what + ")", x.cask(0, what), -2);
        }
        T.due("count(11)", x.count(11), 12);
        T.due("count(12)", x.count(12), 4);
    }

    private static void set() {
        T.part("5 set");
        TheAngelsWantMore x = new TheAngelsWantMore();
        T.due("set(0, 0)", x.set(0, 0), 10);
        T.due("set(0, 40)", x.set(0, 40), 0);
        T.due("set(0, 41)", x.set(0, 41), -6);
        T.due("set(0, -1)", x.set(0, -1), -4);
        T.due("set(0, 7)", x.set(0, 7), 40);
        T.due("set(1, 1)", x.set(1, 1), 4);
        T.due("set(1, 9)", x.set(1, 9), 1);
        T.due("set(1, 10)", x.set(1, 10), -6);
        T.due("set(1, 0)", x.set(1, 0), -4);
        T.due("set(1, 5)", x.set(1, 5), 9);
        T.due("set(2, 0)", x.set(2, 0), 2);
        T.due("set(2, 9)", x.set(2, 9), 0);
        T.due("set(2, 10)", x.set(2, 10), -6);
        T.due("set(2, -1)", x.set(2, -1), -4);
        T.due("set(2, 3)", x.set(2, 3), 9);
        T.due("set(3, -1)", x.set(3, -1), -2);
        T.due("set(-1, 99)", x.set(-1, 99), -2);
        T.due("set(least, greatest)", x.set(Integer.MIN_VALUE, Integer.MAX_VALUE), -2);
        T.due("set(0, least)", x.set(0, Integer.MIN_VALUE), -4);
        T.due("set(0, greatest)", x.set(0, Integer.MAX_VALUE), -6);
        T.due("rate", x.count(2), 7);
        T.due("lent", x.count(3), 5);
        T.due("excise", x.count(4), 3);
        T.due("count(12)", x.count(12), 3);
        T.due("count(14)", x.count(14), 4);
        T.due("count(16)", x.count(16), 4);
    }

    private static void fill() {
        T.part("6 fill");
        TheAngelsWantMore x = Due.townOf("cm200120503;");
        T.due("fill(0, 200)", x.fill(0, 200), 120);
        T.due("fill(0, 0)", x.fill(0, 0), 200);
        T.due("fill(0, 199)", x.fill(0, 199), 0);
        T.due("fill(0, 201)", x.fill(0, 201), -6);
        T.due("fill(0, -1)", x.fill(0, -1), -4);
        T.due("fill(1, -1)", x.fill(1, -1), -1);
        T.due("fill(-1, 999)", x.fill(-1, 999), -1);
        T.due("fill(0, least)", x.fill(0, Integer.MIN_VALUE), -4);
        T.due("fill(0, greatest)", x.fill(0, Integer.MAX_VALUE), -6);
        int[] due = {1, 200, 199, 50, 3, 0};
        for (int what = 0; what < 6; what++) {
            T.due("cask(0, " + what + ")", x.cask(0, what), due[what]);
        }
    }

    private static void takes() {
        T.part("7 takes");
        TheAngelsWantMore x = Due.townOf(SIX);
        // 39 times 7 by 100 is 2.73; half of 2 is 1; 2 and the figure 2 are 4.
        int[] due = {2, 1, 2, 0, 4, 2};
        for (int cask = 0; cask < 6; cask++) {
            T.due("takes(" + cask + ", 39, 7)", x.takes(cask, 39, 7), due[cask]);
            T.due("takes(" + cask + ", 0, 80)", x.takes(cask, 0, 80), 0);
        }
        T.due("takes(0, 400, 80)", x.takes(0, 400, 80), 320);
        T.due("takes(0, 99, 1)", x.takes(0, 99, 1), 0);
        T.due("takes(0, 100, 1)", x.takes(0, 100, 1), 1);
        T.due("takes(1, 100, 1)", x.takes(1, 100, 1), 0);
        T.due("takes(1, 100, 3)", x.takes(1, 100, 3), 1);
        T.due("takes(4, 1, 0)", x.takes(4, 1, 0), 1);
        T.due("takes(4, 2, 80)", x.takes(4, 2, 80), 2);
        T.due("takes(4, 400, 0)", x.takes(4, 400, 0), 2);
        T.due("takes(4, 10, 80)", x.takes(4, 10, 80), 10);
        T.due("takes(4, 11, 80)", x.takes(4, 11, 80), 10);
        T.due("takes(6, -1, -1)", x.takes(6, -1, -1), -1);
        T.due("takes(-1, 0, 0)", x.takes(-1, 0, 0), -1);
        T.due("takes(0, -1, 0)", x.takes(0, -1, 0), -4);
        T.due("takes(0, 0, -1)", x.takes(0, 0, -1), -4);
        T.due("takes(0, 401, -1)", x.takes(0, 401, -1), -4);
        T.due("takes(0, -1, 81)", x.takes(0, -1, 81), -4);
        T.due("takes(0, 401, 0)", x.takes(0, 401, 0), -6);
        T.due("takes(0, 0, 81)", x.takes(0, 0, 81), -6);
        T.due("takes(0, least, greatest)", x.takes(0, Integer.MIN_VALUE, Integer.MAX_VALUE), -4);
        T.due("takes(0, greatest, greatest)", x.takes(0, Integer.MAX_VALUE, Integer.MAX_VALUE), -6);
        T.due("amount", x.cask(0, 2), 300);
        T.due("taken", x.cask(0, 5), 0);
    }

    private static void takesOfAHummingCask() {
        T.part("7 takes, humming");
        TheAngelsWantMore x = Due.townOf("ch100100200;r40;l9;y01;");
        T.due("taken", x.cask(0, 5), 40);
        T.due("takes(0, 41, 10)", x.takes(0, 41, 10), 4);
        T.due("takes(0, 40, 10)", x.takes(0, 40, 10), 4);
        T.due("takes(0, 39, 10)", x.takes(0, 39, 10), 6);
        T.due("takes(0, 39, 51)", x.takes(0, 39, 51), 38);
        T.due("takes(0, 39, 54)", x.takes(0, 39, 54), 39);
        T.due("takes(0, 39, 80)", x.takes(0, 39, 80), 39);
        T.due("takes(0, 5, 10)", x.takes(0, 5, 10), 0);
    }

    private static void pour() {
        T.part("8 pour");
        TheAngelsWantMore x = Due.townOf("co300100400;cm200120550;ci050000600;");
        // (120 * 55 + 80 * 40) / 200 = 49
        T.due("pour(0, 1, 80)", x.pour(0, 1, 80), 49);
        T.due("amount 0", x.cask(0, 2), 20);
        T.due("strength 0", x.cask(0, 3), 40);
        T.due("amount 1", x.cask(1, 2), 200);
        T.due("strength 1", x.cask(1, 3), 49);
        T.due("taken 1", x.cask(1, 5), 0);
        T.due("pour(0, 1, 1), no room", x.pour(0, 1, 1), -3);
        T.due("pour(0, 2, 21), not there", x.pour(0, 2, 21), -3);
        T.due("pour(0, 2, 20), into nothing", x.pour(0, 2, 20), 40);
        T.due("pour(1, 2, 31), no room", x.pour(1, 2, 31), -3);
        // (20 * 40 + 30 * 49) / 50 = 45.4
        T.due("pour(1, 2, 30)", x.pour(1, 2, 30), 45);
        T.due("pour(0, 1, 1), nothing there", x.pour(0, 1, 1), -3);
        T.due("all amounts", x.count(5), 220);
        T.due("count(13)", x.count(13), 4);
        // (1 * 99 + 1 * 0) / 2 = 49.5
        x = Due.townOf("co400001000;co400001990;");
        T.due("pour(1, 0, 1)", x.pour(1, 0, 1), 49);
        x = Due.townOf("co400000000;co400400990;");
        T.due("pour(1, 0, 400)", x.pour(1, 0, 400), 99);
    }

    private static void pourRefused() {
        T.part("8 pour, refused");
        TheAngelsWantMore x = Due.townOf("co300100400;cm200120550;");
        int[] no = {-1, 2, 7, Integer.MIN_VALUE, Integer.MAX_VALUE};
        for (int cask : no) {
            T.due("pour(" + cask + ", 0, 0)", x.pour(cask, 0, 0), -1);
            T.due("pour(0, " + cask + ", 401)", x.pour(0, cask, 401), -1);
        }
        T.due("pour(1, 1, 0)", x.pour(1, 1, 0), -1);
        T.due("pour(0, 0, 1)", x.pour(0, 0, 1), -1);
        T.due("pour(0, 1, 0)", x.pour(0, 1, 0), -4);
        T.due("pour(0, 1, -1)", x.pour(0, 1, -1), -4);
        T.due("pour(0, 1, least)", x.pour(0, 1, Integer.MIN_VALUE), -4);
        T.due("pour(0, 1, 401)", x.pour(0, 1, 401), -6);
        T.due("pour(0, 1, greatest)", x.pour(0, 1, Integer.MAX_VALUE), -6);
        T.due("pour(0, 1, 400)", x.pour(0, 1, 400), -3);
        T.due("pour(1, 0, 121)", x.pour(1, 0, 121), -3);
        T.due("amounts", x.count(5), 220);
        T.due("amount 0", x.cask(0, 2), 100);
        T.due("count(11)", x.count(11), 12);
    }

    private static void years() {
        T.part("9 years");
        TheAngelsWantMore x = new TheAngelsWantMore();
        T.due("years(0)", x.years(0), -4);
        T.due("years(-1)", x.years(-1), -4);
        T.due("years(least)", x.years(Integer.MIN_VALUE), -4);
        T.due("years(61)", x.years(61), -6);
        T.due("years(greatest)", x.years(Integer.MAX_VALUE), -6);
        T.due("years(1)", x.years(1), 1);
        T.due("years(60)", x.years(60), 61);
        for (int i = 2; i <= 16; i++) {
            x.years(60);
        }
        T.due("year", x.count(1), 961);
        T.due("years(39)", x.years(39), -6);
        T.due("years(38)", x.years(38), 999);
        T.due("years(1)", x.years(1), -6);
        T.due("years(0)", x.years(0), -4);
        T.due("year", x.count(1), 999);
    }

    /** Amount, taken and strength of a cask at the end of each year. */
    private static void life(String town, int[][] due) {
        TheAngelsWantMore x = Due.townOf(town);
        TheAngelsWantMore thought = Due.townOf(town);
        for (int i = 0; i < due.length; i++) {
            T.due(town + " year", x.years(1), i + 1);
            T.due(town + " amount in year " + (i + 1), x.cask(0, 2), due[i][0]);
            T.due(town + " taken in year " + (i + 1), x.cask(0, 5), due[i][1]);
            T.due(town + " strength in year " + (i + 1), x.cask(0, 3), due[i][2]);
            T.due(town + " amount behind " + (i + 1), thought.behind(0, i + 1, 0), due[i][0]);
            T.due(town + " strength behind " + (i + 1), thought.behind(0, i + 1, 1), due[i][2]);
            T.due(town + " taken behind " + (i + 1), thought.behind(0, i + 1, 2), due[i][1]);
        }
        thought.years(due.length);
        T.due(town + " in one go", Due.state(thought).equals(Due.state(x)) ? 1 : 0, 1);
    }

    private static void aYearOfEachKind() {
        T.part("9 years, oak");
        life("co100100505;", new int[][] {{90, 10, 50}, {81, 19, 50}, {73, 27, 50}, {59, 41, 50}, {54, 46, 50},
            {49, 51, 50}, {72, 28, 50}, {58, 42, 50}});
        life("l1;r40;co010010505;", new int[][] {{2, 8, 50}, {1, 9, 50}, {1, 9, 50}, {1, 9, 50}, {1, 9, 50}, {1, 9, 50},
            {5, 5, 50}});
        T.part("9 years, monks");
        life("cm100100039;", new int[][] {{95, 5, 2}, {91, 9, 1}, {87, 13, 0}, {79, 21, 0}, {76, 24, 0}, {73, 27, 0},
            {70, 30, 0}, {63, 37, 0}});
        T.part("9 years, brandy");
        life("cb100020983;", new int[][] {{18, 2, 98}, {17, 3, 98}, {16, 4, 98}, {13, 7, 98}, {12, 8, 99}, {11, 9, 99},
            {13, 7, 99}, {11, 9, 99}, {10, 10, 99}, {9, 11, 99}});
        T.part("9 years, brandy, taken less than the figure");
        life("cb100010509;", new int[][] {{9, 1, 50}, {9, 1, 50}, {9, 1, 50}, {8, 2, 50}, {8, 2, 51}, {8, 2, 51},
            {8, 2, 51}});
        life("cb100010503;", new int[][] {{9, 1, 50}, {9, 1, 50}, {9, 1, 50}, {8, 2, 50}, {8, 2, 51}, {8, 2, 51},
            {8, 2, 51}});
        T.part("9 years, brandy, taken the figure");
        life("cb100010502;", new int[][] {{9, 1, 50}, {9, 1, 50}, {9, 1, 50}, {8, 2, 50}, {8, 2, 51}, {8, 2, 51},
            {10, 0, 51}});
        T.part("9 years, iron");
        life("ci100100509;", new int[][] {{100, 0, 50}, {100, 0, 50}, {100, 0, 50}, {100, 0, 50}, {100, 0, 50},
            {100, 0, 50}, {100, 0, 50}});
        T.part("9 years, sherry");
        life("cs100020502;", new int[][] {{16, 4, 50}, {13, 7, 50}, {10, 10, 50}, {6, 14, 50}, {4, 16, 51}, {2, 18, 51},
            {6, 14, 51}, {3, 17, 51}, {1, 19, 51}, {0, 20, 52}});
        T.part("9 years, humming");
        life("r40;l9;ch050050979;", new int[][] {{30, 20, 98}, {18, 32, 99}, {4, 46, 99}, {2, 48, 99}, {2, 48, 99},
            {2, 48, 99}, {2, 48, 99}});
        life("r40;l3;ch050050979;", new int[][] {{30, 20, 98}, {18, 32, 99}, {0, 50, 99}});
    }

    private static void noMoreComesBackThanThereIsRoomFor() {
        T.part("9 years, room");
        TheAngelsWantMore x = Due.townOf("co100100500;y06;");
        T.due("fill", x.fill(0, 100), 49);
        x.years(1);
        T.due("amount", x.cask(0, 2), 100);
        T.due("taken: 51 and 10 less 10", x.cask(0, 5), 51);
        // The year that another told stands: two casks by numbers, neither changes the other.
        x = Due.townOf("co100100500;ci100050500;co100100500;y07;");
        T.due("amount 0", x.cask(0, 2), 72);
        T.due("amount 1", x.cask(1, 2), 50);
        T.due("amount 2", x.cask(2, 2), 72);
    }
}
