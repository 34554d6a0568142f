/** Promises 31 to 33: the image, on from it, and what is counted. */
public final class ImageTest {
    private static final Due T = new Due();
    private static final String TOWN = "co300100400;cm200120500;cb100090403;r20;l3;e5;y03;";

    public static void main(String[] args) {
        imageAndOn();
        whatAnImageLeavesOut();
        anotherImage();
        casksThatAreNoMore();
        count();
        refusalsOfEachNumber();
        theLastOf512Calls();
        T.end();
    }

    private static boolean same(String one, String other) {
        return one.equals(other);
    }

    private static void imageAndOn() {
        T.part("31 and 32 image, on");
        TheAngelsWantMore x = Due.townOf(TOWN);
        T.due("on() without one", x.on(), -3);
        T.due("count(13)", x.count(13), 1);
        String was = Due.state(x);
        T.due("image()", x.image(), 3);
        T.due("as it was", same(was, Due.state(x)) ? 1 : 0, 1);
        x.years(40);
        x.fill(0, 7);
        x.pour(0, 1, 3);
        x.set(0, 1);
        x.set(1, 1);
        x.set(2, 1);
        Due.town(x, "ch100080205;cs100080205;");
        T.due("casks", x.count(0), 5);
        T.due("another", same(was, Due.state(x)) ? 1 : 0, 0);
        T.due("on()", x.on(), 3);
        T.due("as then", same(was, Due.state(x)) ? 1 : 0, 1);
        T.due("no fourth cask", x.cask(3, 0), -1);
        T.due("years(2)", x.years(2), 5);
        T.due("on() once more", x.on(), 3);
        T.due("as then", same(was, Due.state(x)) ? 1 : 0, 1);
        // What goes on from it goes on as it would have.
        TheAngelsWantMore other = Due.townOf(TOWN);
        x.years(11);
        other.years(11);
        T.due("11 years", same(Due.state(x), Due.state(other)) ? 1 : 0, 1);
        T.due("a cask comes anew", Due.town(x, "ch100080205;"), 1);
        T.due("its kind", x.cask(3, 0), 5);
        T.due("its taken", x.cask(3, 5), 0);
    }

    private static void whatAnImageLeavesOut() {
        T.part("31 and 32 row, letters and refusals stay");
        TheAngelsWantMore x = Due.townOf(TOWN);
        x.row(5);
        x.letter('r');
        x.image();
        x.row(6);
        x.letter('0');
        x.letter('7');
        x.cask(9, 9);
        T.due("on()", x.on(), 3);
        T.due("row", x.count(7), 2);
        T.due("letters", x.count(8), 3);
        T.due("refusals", x.count(11), 1);
        x.letter(';');
        T.due("town()", x.town(), 1);
        T.due("rate", x.count(2), 7);
        T.due("on()", x.on(), 3);
        T.due("rate", x.count(2), 20);
        T.due("letters", x.count(8), 0);
    }

    private static void anotherImage() {
        T.part("31 another image");
        TheAngelsWantMore x = new TheAngelsWantMore();
        T.due("image() of nothing", x.image(), 0);
        Due.town(x, TOWN);
        T.due("on()", x.on(), 0);
        T.due("casks", x.count(0), 0);
        T.due("rate", x.count(2), 10);
        Due.town(x, "y09;" + TOWN);
        T.due("image()", x.image(), 12);
        x.years(1);
        T.due("on()", x.on(), 12);
        T.due("casks", x.count(0), 3);
        x.years(5);
        T.due("image() later", x.image(), 17);
        x.years(5);
        T.due("on() later", x.on(), 17);
    }

    private static void casksThatAreNoMore() {
        T.part("32 on: casks that came behind the image are in nothing that is asked");
        TheAngelsWantMore x = Due.townOf("ci100055400;");
        x.image();
        Due.town(x, "cb100095900;ch100095990;y05;");
        T.due("three casks", x.allBehind(0, 1) > 0 ? x.count(0) : 0, 3);
        T.due("spread() of three", x.spread(), 59);
        x.on();
        T.due("count(0)", x.count(0), 1);
        T.due("count(5)", x.count(5), 55);
        T.due("count(6)", x.count(6), 0);
        T.due("allBehind(9, 0)", x.allBehind(9, 0), 55);
        T.due("allBehind(9, 1)", x.allBehind(9, 1), 0);
        T.due("allBehind(9, 2)", x.allBehind(9, 2), 0);
        T.due("theirs(-1, 9, 0)", x.theirs(-1, 9, 0), 0);
        T.due("theirs(1, 9, 0)", x.theirs(1, 9, 0), Due.refused(-1));
        T.due("excise(-1)", x.excise(-1), 10);
        T.due("exciseIn(3)", x.exciseIn(3), 30);
        T.due("blend(90)", x.blend(90), -9);
        T.due("spread()", x.spread(), 0);
        T.due("layDown(0)", x.layDown(0), 0);
        T.due("layDown(9)", x.layDown(9), 0);
        T.due("sell(9)", x.sell(9), 0);
        T.due("pourFor(0, 90)", x.pourFor(0, 90), -9);
        T.due("lots(1, 5, 0)", x.lots(1, 5, 0), 55);
        T.due("lots(1, 5, 1)", x.lots(1, 5, 1), 0);
        x.fill(0, 0);
        T.due("spread() of nothing", x.spread(), -9);
        T.due("sell(9) of nothing", x.sell(9), -9);
    }

    private static void count() {
        T.part("33 count");
        TheAngelsWantMore x = Due.townOf("co300100400;cm200120500;cb100090403;r20;l3;e5;y01;");
        x.row(1);
        x.row(2);
        x.letter('x');
        int[] due = {3, 1, 20, 3, 5, 80 + 108 + 72, 20 + 12 + 18, 2, 1, -9, -9, 0, 0, 0, 0, 0, 0, -9, -9};
        for (int what = 0; what < due.length; what++) {
            T.due("count(" + what + ")", x.count(what), due[what]);
        }
        T.due("count(-1)", x.count(-1), -9);
        T.due("count(-9)", x.count(-9), -9);
        T.due("count(least)", x.count(Integer.MIN_VALUE), -9);
        T.due("count(greatest)", x.count(Integer.MAX_VALUE), -9);
        T.due("count(12), -9 is no refusal", x.count(12), 0);
    }

    private static void refusalsOfEachNumber() {
        T.part("33 count, refusals");
        TheAngelsWantMore x = Due.townOf("co300100400;cm200200500;");
        String was = Due.state(x);
        for (int i = 0; i < 5; i++) {
            x.cask(9, 0);
        }
        for (int i = 0; i < 4; i++) {
            x.cask(0, 9);
        }
        for (int i = 0; i < 3; i++) {
            x.pour(0, 1, 1);
        }
        x.fill(0, -1);
        x.fill(0, -1);
        x.fill(0, 301);
        // Answers of -9 and of faults are none.
        x.blend(50);
        x.town();
        x.hum(0);
        int[] due = {5, 4, 3, 2, 0, 1};
        for (int i = 0; i < due.length; i++) {
            T.due("count(" + (11 + i) + ")", x.count(11 + i), due[i]);
        }
        T.due("nothing else", same(was, Due.state(x)) ? 1 : 0, 1);
        // Refusals of longs are counted too.
        x.theirs(9, 0, 0);
        x.chance(0, 0, 9, 2, 0);
        T.due("count(11)", x.count(11), 6);
        T.due("count(16)", x.count(16), 2);
    }

    private static void theLastOf512Calls() {
        T.part("an object is used for at most 512 calls");
        TheAngelsWantMore x = new TheAngelsWantMore();
        for (int i = 1; i <= 511; i++) {
            x.years(61);
        }
        T.due("count(16)", x.count(16), 511);
        x = Due.townOf("co300300400;");
        for (int i = 14; i <= 511; i++) {
            T.due("fill(0, " + i % 300 + ")", x.fill(0, i % 300), i == 14 ? 300 : (i - 1) % 300);
        }
        T.due("count(5)", x.count(5), 511 % 300);
    }
}
