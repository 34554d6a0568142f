/** Compares answers with those that are due, promise by promise, and ends a test with exit code 1 if one differed. */
final class Due {
    private int wrong = 0;
    private int compared = 0;
    private String part = "";

    /** What is compared from here on belongs to this part, mostly a promise by number and name. */
    void part(String name) {
        part = name;
    }

    void due(String call, long got, long want) {
        compared++;
        if (got != want) {
            wrong++;
            System.out.println(part + ": " + call + " answered " + got + ", due is " + want);
        }
    }

    void end() {
        System.out.println(compared + " answers compared, " + wrong + " not as due");
        if (wrong != 0 || compared == 0) {
            System.exit(1);
        }
    }

    /** A long that tells a refusal. */
    static long refused(int number) {
        return 4000000000000000000L - number;
    }

    static TheAngelsWantMore tell(TheAngelsWantMore x, String text) {
        for (int i = 0; i < text.length(); i++) {
            x.letter(text.charAt(i));
        }
        return x;
    }

    /** What town() answers to the letters of a text. */
    static int town(TheAngelsWantMore x, String text) {
        return tell(x, text).town();
    }

    /** A new object with the town of a text, which must be one. */
    static TheAngelsWantMore townOf(String text) {
        TheAngelsWantMore x = new TheAngelsWantMore();
        int answer = town(x, text);
        if (answer <= 0) {
            System.out.println("the test's own town \"" + text + "\" is refused with " + answer);
            System.exit(1);
        }
        return x;
    }

    /** The row becomes these numbers (the casks of x must be one at least). */
    static void row(TheAngelsWantMore x, int... numbers) {
        x.judge(0);
        for (int number : numbers) {
            x.row(number);
        }
    }

    /** What can be told of a town without a change, as a text, without refusals, row, letters and image. */
    static String state(TheAngelsWantMore x) {
        StringBuilder b = new StringBuilder();
        int casks = x.count(0);
        for (int what = 0; what <= 6; what++) {
            b.append(x.count(what)).append(' ');
        }
        for (int cask = 0; cask < casks; cask++) {
            b.append('|');
            for (int what = 0; what <= 5; what++) {
                b.append(' ').append(x.cask(cask, what));
            }
        }
        return b.toString();
    }

    /** The same with row and letters and every refusal's count. */
    static String wholeState(TheAngelsWantMore x) {
        StringBuilder b = new StringBuilder(state(x));
        for (int what = 7; what <= 16; what++) {
            b.append(' ').append(x.count(what));
        }
        return b.toString();
    }
}
