/** What the tests share: it counts answers that are not due, and tells texts to an object. */
final class Check {
    static final int BAD = RingArticles.BAD;
    static final int STATE = RingArticles.STATE;
    static final int FULL = RingArticles.FULL;
    static final int NONE = RingArticles.NONE;
    static final int NO = RingArticles.NO;
    static final int LEAST = Integer.MIN_VALUE;
    static final int MOST = Integer.MAX_VALUE;

    /** Four hands, four ships, three pieces, all of unlike sizes. */
    static final String CREW = "h4 5 2;h2 3 9; h3 7 1;h1 1 4;l0 1;l1 0;l2 1;l3 1;l1 3;"
        + "s12 40;s16 70;s3 9;s30 99;p30;p12;p7;w15;";

    private static int wrong = 0;
    private static String sentence = "";

    private Check() {
    }

    /** The sentence that stands ahead of every answer that is not due, until another one does. */
    static void under(String words) {
        sentence = words;
    }

    static void due(String what, long want, long got) {
        if (want != got) {
            wrong++;
            System.out.println(sentence + what + " answered " + got + ", due is " + want);
        }
    }

    static void tell(RingArticles x, String text) {
        for (int i = 0; i < text.length(); i++) {
            x.type(text.charAt(i));
        }
    }

    static int read(RingArticles x, String text) {
        x.clear();
        tell(x, text);
        return x.articles();
    }

    static RingArticles crew(String text) {
        RingArticles x = new RingArticles();
        int items = read(x, text);
        if (items < 0) {
            due("a crew's text has no FAULT: " + text, 0, items);
        }
        return x;
    }

    /** Each of the numbers, one behind another, for calls that take one number. */
    static void same(String what, int[] want, int[] got) {
        due(what + ", how many", want.length, got.length);
        for (int i = 0; i < want.length && i < got.length; i++) {
            due(what + ", number " + i, want[i], got[i]);
        }
    }

    static int[] row(int... numbers) {
        return numbers;
    }

    /** One thing that hand(h, what) tells, of every hand. */
    static int[] hands(RingArticles x, int what) {
        int[] row = new int[x.count(0)];
        for (int h = 0; h < row.length; h++) {
            row[h] = x.hand(h, what);
        }
        return row;
    }

    static void end() {
        System.out.println(wrong == 0 ? "all answers are as due" : wrong + " answers are not as due");
        if (wrong != 0) {
            System.exit(1);
        }
    }
}
