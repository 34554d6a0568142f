/** Promises 18 to 22: what to pour for a strength, what to blend, how far strengths are apart, what to keep, what to sell. */
public final class BlendTest {
    private static final Due T = new Due();

    public static void main(String[] args) {
        pourFor();
        pourForEdges();
        pourForRefused();
        blend();
        blendRefused();
        spread();
        layDown();
        sell();
        T.end();
    }

    private static void pourFor() {
        T.part("18 pourFor");
        TheAngelsWantMore x = Due.townOf("co100050400;cm100050600;cs100100500;ci050000990;");
        // n of 60 to 50 of 40: 45 from 17 on, for (2000 + 17 * 60) / 67 = 45.07; of 50 it would be 50.
        T.due("pourFor(0, 45)", x.pourFor(0, 45), 1017);
        T.due("pourFor(0, 46)", x.pourFor(0, 46), 1022);
        // 1 of 60 and 1 of 50 leave 40, cut: the least cask.
        T.due("pourFor(0, 40)", x.pourFor(0, 40), 1001);
        T.due("pourFor(0, 50), all of it and all the room", x.pourFor(0, 50), 1050);
        T.due("pourFor(0, 51)", x.pourFor(0, 51), -9);
        T.due("pourFor(0, 39)", x.pourFor(0, 39), -9);
        T.due("pourFor(1, 59)", x.pourFor(1, 59), 1);
        T.due("pourFor(1, 60), it has it already", x.pourFor(1, 60), -9);
        // 50 of 60 and n of 40 and of 50: 55 from n = 13 on of 40, (3000 + 13 * 40) / 63 = 55.87.
        T.due("pourFor(1, 55)", x.pourFor(1, 55), 13);
        T.due("pourFor(2, 50), no room", x.pourFor(2, 50), -9);
        T.due("pourFor(3, 40)", x.pourFor(3, 40), 1);
        T.due("pourFor(3, 60)", x.pourFor(3, 60), 1001);
        T.due("pourFor(3, 50)", x.pourFor(3, 50), 2001);
        T.due("pourFor(3, 99), its own", x.pourFor(3, 99), -9);
        T.due("amount", x.cask(0, 2), 50);
        T.due("pour as told", x.pour(1, 0, 17), 45);
    }

    private static void pourForEdges() {
        T.part("18 pourFor, edges");
        TheAngelsWantMore x = Due.townOf("co400001000;co400399990;");
        T.due("pourFor(0, 49)", x.pourFor(0, 49), 1001);
        T.due("pourFor(0, 50), passed over", x.pourFor(0, 50), -9);
        T.due("pourFor(0, 66)", x.pourFor(0, 66), 1002);
        T.due("pourFor(0, 98)", x.pourFor(0, 98), 1098);
        T.due("pourFor(0, 99)", x.pourFor(0, 99), -9);
        // 200 of 0 and n of 99: 49 from 196 on.
        x = Due.townOf("co400200000;co400400990;");
        T.due("pourFor(0, 49)", x.pourFor(0, 49), 1196);
        // The amount goes ahead of the cask: 10 of 50 from cask 2, 20 of 45 from cask 1.
        x = Due.townOf("co400010400;co400020450;co400020500;");
        T.due("pourFor(0, 43)", x.pourFor(0, 43), 2005);
        T.due("pourFor(0, 0)", Due.townOf("co400100000;co400001990;").pourFor(0, 0), 1001);
        T.due("pourFor(0, 99)", Due.townOf("co400100990;co400001990;").pourFor(0, 99), 1001);
        T.due("a cask alone", Due.townOf("co400010400;").pourFor(0, 40), -9);
        T.due("nothing in the other", Due.townOf("co400010400;co400000400;").pourFor(0, 40), -9);
        T.due("as strong", Due.townOf("co400010400;co400001400;").pourFor(0, 40), 1001);
    }

    private static void pourForRefused() {
        T.part("18 pourFor, refused");
        TheAngelsWantMore x = Due.townOf("co100050400;cm100050600;");
        T.due("pourFor(2, -1)", x.pourFor(2, -1), -1);
        T.due("pourFor(-1, 100)", x.pourFor(-1, 100), -1);
        T.due("pourFor(0, -1)", x.pourFor(0, -1), -4);
        T.due("pourFor(0, 100)", x.pourFor(0, 100), -6);
        T.due("pourFor(least, 0)", x.pourFor(Integer.MIN_VALUE, 0), -1);
        T.due("pourFor(0, least)", x.pourFor(0, Integer.MIN_VALUE), -4);
        T.due("pourFor(0, greatest)", x.pourFor(0, Integer.MAX_VALUE), -6);
    }

    private static void blend() {
        T.part("19 blend");
        // Pairs: 01 nothing, 02 and 12 are 40, 03 and 13 are 50, 23 is 45.
        TheAngelsWantMore x = Due.townOf("co100000450;co100000450;co100010400;co100010500;");
        int[][] due = {{0, 2}, {40, 2}, {42, 2}, {43, 23}, {44, 23}, {45, 23}, {47, 23}, {48, 3}, {50, 3}, {99, 3}};
        for (int[] d : due) {
            T.due("blend(" + d[0] + ")", x.blend(d[0]), d[1]);
        }
        // Pairs: 01 is 40, 02 is 44, 12 is 48: 42 and 46 are as near to two of them.
        x = Due.townOf("co100010400;co100000990;co100010480;");
        T.due("blend(42)", x.blend(42), 1);
        T.due("blend(43)", x.blend(43), 2);
        T.due("blend(46)", x.blend(46), 2);
        T.due("blend(47)", x.blend(47), 12);
        // (1 * 40 + 2 * 41) / 3 = 40.67; 02 is (1 * 40 + 1 * 42) / 2 = 41
        x = Due.townOf("co100001400;co100002410;co100001420;");
        T.due("blend(40), cut", x.blend(40), 1);
        T.due("blend(41)", x.blend(41), 2);
        T.due("blend(99) of 0", Due.townOf("co100001000;co100002000;").blend(99), 1);
        T.due("blend(0) of 99", Due.townOf("co100001990;co100002990;").blend(0), 1);
        T.due("blend(0) of 0 and 1", Due.townOf("co100001010;co100002000;co100001000;").blend(0), 1);
        x = Due.townOf("co100010400;co100000990;co100010480;");
        x.fill(0, 0);
        x.fill(1, 1);
        T.due("blend(40) of what is there now", x.blend(40), 2);
        T.due("blend(99)", x.blend(99), 1);
        T.due("seven casks", Due.townOf("co100001000;co100001000;co100001000;co100001000;co100001000;co100001990;co100001990;")
                .blend(99), 56);
    }

    private static void blendRefused() {
        T.part("19 blend, refused");
        TheAngelsWantMore x = Due.townOf("co100010400;");
        T.due("blend(40) of one", x.blend(40), -9);
        T.due("blend(-1)", x.blend(-1), -4);
        T.due("blend(100)", x.blend(100), -6);
        T.due("blend(least)", x.blend(Integer.MIN_VALUE), -4);
        T.due("blend(greatest)", x.blend(Integer.MAX_VALUE), -6);
        T.due("blend of none", new TheAngelsWantMore().blend(40), -9);
        T.due("blend of nothing", Due.townOf("co100000400;co100000500;").blend(40), -9);
        T.due("blend of nothing and something", Due.townOf("co100000400;co100001500;").blend(40), 1);
        T.due("count(14)", x.count(14), 2);
    }

    private static void spread() {
        T.part("20 spread");
        TheAngelsWantMore x = Due.townOf("co100010400;co100000990;co100010480;co100000000;co100001050;");
        T.due("spread()", x.spread(), 43);
        x.fill(4, 0);
        T.due("spread() without 5", x.spread(), 8);
        x.fill(0, 0);
        T.due("spread() of one", x.spread(), 0);
        x.fill(2, 0);
        T.due("spread() of nothing", x.spread(), -9);
        x.fill(1, 1);
        x.fill(3, 1);
        T.due("spread() of 99 and 0", x.spread(), 99);
        T.due("spread() of none", new TheAngelsWantMore().spread(), -9);
        T.due("spread() of 99 alone", Due.townOf("co100001990;").spread(), 0);
        T.due("spread() of 0 alone", Due.townOf("co100001000;").spread(), 0);
    }

    private static void layDown() {
        T.part("21 layDown");
        // 50 of 40 and 40 of 50 are the same; 40 of 49 grow stronger each year.
        TheAngelsWantMore x = Due.townOf("r00;ci100050400;ci100040500;ch100040490;");
        T.due("layDown(0)", x.layDown(0), 0);
        T.due("layDown(1)", x.layDown(1), 0);
        T.due("layDown(2)", x.layDown(2), 2);
        T.due("layDown(200)", x.layDown(200), 2);
        T.due("layDown(-1)", x.layDown(-1), -4);
        T.due("layDown(201)", x.layDown(201), -6);
        T.due("layDown(least)", x.layDown(Integer.MIN_VALUE), -4);
        T.due("layDown(greatest)", x.layDown(Integer.MAX_VALUE), -6);
        // The oak has 100 of 50 now, and 90 behind a year; the iron has 92 of 50.
        x = Due.townOf("co100100500;ci100092500;");
        T.due("layDown(0)", x.layDown(0), 0);
        T.due("layDown(1)", x.layDown(1), 1);
        T.due("layDown(0) of nothing", Due.townOf("co100000500;co100100000;").layDown(0), 0);
        T.due("layDown(0) of none", new TheAngelsWantMore().layDown(0), -9);
        x.years(1);
        T.due("layDown(0) a year later", x.layDown(0), 1);
    }

    private static void sell() {
        T.part("22 sell");
        // Behind a year the oak keeps 90 of 50 for its 100: 45; iron keeps its own strength.
        TheAngelsWantMore x = Due.townOf("ci100000000;co100100500;ci100010460;ci100007450;");
        T.due("sell(0)", x.sell(0), 3);
        T.due("sell(1)", x.sell(1), 1);
        // 32 * 50 / 35 = 45.71, 30 * 50 / 33 = 45.45, and 46 behind them
        T.due("as a fraction", Due.townOf("co100035500;co100033500;ci100001460;").sell(1), 1);
        T.due("as a fraction, the other way", Due.townOf("co100033500;co100035500;ci100001460;").sell(1), 0);
        T.due("of several the least", Due.townOf("co100000500;ci100010450;ci100007450;").sell(9), 1);
        T.due("least of all, nothing left", Due.townOf("ci100010010;r00;cs100001999;").sell(1), 1);
        T.due("nothing", Due.townOf("ci100000500;").sell(0), -9);
        T.due("none", new TheAngelsWantMore().sell(0), -9);
        T.due("sell(-1)", x.sell(-1), -4);
        T.due("sell(201)", x.sell(201), -6);
        T.due("sell(least)", x.sell(Integer.MIN_VALUE), -4);
        T.due("sell(greatest)", x.sell(Integer.MAX_VALUE), -6);
    }
}
