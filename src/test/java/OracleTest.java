import java.util.Random;

/** All promises: long runs of calls, always the same ones, whose answers are the Oracle's. */
public final class OracleTest {
    private static final int RUNS = 6000;
    private static final int CALLS = 512;
    private static final int[] STRANGE = {-1000001, -10, -2, -1, 6, 7, 10, 11, 31, 32, 33, 64, 99, 100, 255, 256,
        Integer.MIN_VALUE, Integer.MIN_VALUE + 1, Integer.MAX_VALUE};

    private final Random random;
    private final RingArticles x = new RingArticles();
    private final Oracle oracle = new Oracle();
    private int calls = 0;
    private String last = "";

    private OracleTest(long seed) {
        random = new Random(seed);
    }

    public static void main(String[] args) {
        for (int seed = 0; seed < RUNS; seed++) {
            new OracleTest(seed).run(seed);
        }
        Check.end();
    }

    private void run(int seed) {
        if (seed % 8 == 0) {
            texts(seed);
            return;
        }
        if (seed % 4 != 1) {
            tell(seed, words());
        }
        while (calls < CALLS) {
            if (random.nextInt(150) == 0) {
                tell(seed, random.nextInt(3) == 0 ? spoilt(words()) : words());
            } else if (random.nextInt(150) == 0) {
                nobodyIsAboard(seed);
            } else {
                call(seed);
            }
        }
    }

    /** By single calls it is seldom that a whole crew is MAROONED and asked for then. */
    private void nobodyIsAboard(int seed) {
        for (int h = 0; h < 6 && calls < CALLS; h++) {
            due(seed, "maroons(" + h + ")", oracle.maroons(h), x.maroons(h));
        }
        for (int i = 0; i < 8 && calls < CALLS; i++) {
            asked(seed);
        }
        for (int h = 0; h < 6 && calls < CALLS; h++) {
            due(seed, "undo()", oracle.undo(), x.undo());
        }
    }

    private void texts(int seed) {
        while (calls < CALLS) {
            String text = random.nextInt(4) == 0 ? soup() : spoilt(words());
            tell(seed, text);
            if (random.nextInt(4) != 0 && calls < CALLS) {
                due(seed, "clear()", oracle.clear(), x.clear());
            }
        }
    }

    private void tell(int seed, String text) {
        for (int i = 0; i < text.length() && calls < CALLS; i++) {
            due(seed, "type()", oracle.type(text.charAt(i)), x.type(text.charAt(i)));
        }
        if (calls < CALLS) {
            due(seed, "articles() of " + text, oracle.articles(), x.articles());
        }
    }

    private void due(int seed, String call, long want, long got) {
        calls++;
        if (want != got) {
            Check.due("run " + seed + ", call " + calls + ", " + call + " behind " + last, want, got);
        }
        last = call;
    }

    /** A text without FAULT, but for its length at times. */
    private String words() {
        StringBuilder text = new StringBuilder();
        int hands = random.nextInt(7);
        int small = random.nextInt(2) == 0 ? 10 : 3;
        for (int h = 0; h < hands; h++) {
            item(text, 'h', 1 + random.nextInt(small - 1), random.nextInt(small), random.nextInt(small));
        }
        for (int i = hands < 2 ? 0 : random.nextInt(10); i > 0; i--) {
            int a = random.nextInt(hands);
            item(text, 'l', a, (a + 1 + random.nextInt(hands - 1)) % hands);
        }
        for (int s = random.nextInt(6); s > 0; s--) {
            item(text, 's', random.nextInt(1 + Math.min(60, hands * small)), random.nextInt(100));
        }
        for (int p = random.nextInt(6); p > 0; p--) {
            item(text, 'p', 1 + random.nextInt(small == 3 ? 4 : 99));
        }
        if (random.nextBoolean()) {
            item(text, 'w', random.nextInt(4) == 0 ? 0 : random.nextInt(51));
        }
        return text.length() > 150 ? text.substring(0, 150) : text.toString();
    }

    private void item(StringBuilder text, char letter, int... numbers) {
        text.append(letter);
        for (int i = 0; i < numbers.length; i++) {
            text.append(i > 0 || random.nextInt(9) == 0 ? " " : "").append(numbers[i]);
        }
        text.append(random.nextInt(9) == 0 ? " ; " : ";");
    }

    private String spoilt(String text) {
        StringBuilder other = new StringBuilder(text);
        for (int i = random.nextInt(3); i > 0 && other.length() > 0; i--) {
            int place = random.nextInt(other.length());
            switch (random.nextInt(4)) {
                case 0:
                    other.deleteCharAt(place);
                    break;
                case 1:
                    other.insert(place, sign());
                    break;
                case 2:
                    other.setCharAt(place, sign());
                    break;
                default:
                    other.setLength(place);
            }
        }
        return other.toString();
    }

    private String soup() {
        StringBuilder text = new StringBuilder();
        for (int i = random.nextInt(30); i > 0; i--) {
            text.append(sign());
        }
        return text.toString();
    }

    private char sign() {
        String signs = "hlspwhlspw0123456789;;;   x:/`{A-\t\n";
        int i = random.nextInt(signs.length() + 1);
        return i == signs.length() ? (char) random.nextInt(256) : signs.charAt(i);
    }

    /** A number that a call may take, mostly; a strange one at times. */
    private int number(int least, int most) {
        return random.nextInt(25) == 0 ? STRANGE[random.nextInt(STRANGE.length)]
            : least + random.nextInt(most - least + 1);
    }

    private void call(int seed) {
        switch (random.nextInt(12)) {
            case 0:
            case 1:
            case 2:
                deed(seed);
                break;
            case 3:
                undoneOrKept(seed);
                break;
            case 4:
            case 5:
                told(seed);
                break;
            case 6:
                seen(seed);
                break;
            default:
                asked(seed);
        }
    }

    private void deed(int seed) {
        int h = number(0, 5);
        int n = number(1, 40);
        int s = number(0, 4);
        switch (random.nextInt(10)) {
            case 0:
            case 1:
            case 2:
                due(seed, "chases(" + s + ")", oracle.chases(s), x.chases(s));
                break;
            case 3:
                due(seed, "shares()", oracle.shares(), x.shares());
                break;
            case 4:
            case 5:
                due(seed, "votes(" + h + ")", oracle.votes(h), x.votes(h));
                break;
            case 6:
                due(seed, "maroons(" + h + ")", oracle.maroons(h), x.maroons(h));
                break;
            case 7:
            case 8:
                due(seed, "hides(" + h + ", " + n + ")", oracle.hides(h, n), x.hides(h, n));
                break;
            default:
                due(seed, "finds(" + h + ")", oracle.finds(h), x.finds(h));
        }
    }

    private void undoneOrKept(int seed) {
        int image = number(0, 1);
        switch (random.nextInt(8)) {
            case 0:
                due(seed, "keep(" + image + ")", oracle.keep(image), x.keep(image));
                break;
            case 1:
                due(seed, "back(" + image + ")", oracle.back(image), x.back(image));
                break;
            default:
                due(seed, "undo()", oracle.undo(), x.undo());
        }
    }

    private void told(int seed) {
        int i = number(0, 5);
        int what = number(0, 9);
        int few = number(0, 2);
        int seven = number(0, 6);
        switch (random.nextInt(6)) {
            case 0:
            case 1:
                due(seed, "hand(" + i + ", " + what + ")", oracle.hand(i, what), x.hand(i, what));
                break;
            case 2:
                due(seed, "ship(" + i + ", " + few + ")", oracle.ship(i, few), x.ship(i, few));
                break;
            case 3:
                due(seed, "piece(" + i + ")", oracle.piece(i), x.piece(i));
                break;
            case 4:
                due(seed, "now(" + seven + ")", oracle.now(seven), x.now(seven));
                break;
            default:
                due(seed, "count(" + seven + ")", oracle.count(seven), x.count(seven));
        }
    }

    private void seen(int seed) {
        int set = number(0, 63);
        int h = number(0, 5);
        int kind = number(0, 5);
        switch (random.nextInt(10)) {
            case 0:
                due(seed, "forget()", oracle.forget(), x.forget());
                break;
            case 1:
            case 2:
                due(seed, "keen()", oracle.keen(), x.keen());
                break;
            case 3:
            case 4:
            case 5:
                due(seed, "saw(" + set + ", " + h + ")", oracle.saw(set, h), x.saw(set, h));
                break;
            case 6:
                due(seed, "trace()", oracle.trace(), x.trace());
                break;
            default:
                due(seed, "mark(" + kind + ", " + h + ")", oracle.mark(kind, h), x.mark(kind, h));
        }
    }

    private void asked(int seed) {
        int h = number(0, 5);
        int i = number(-1, 4);
        int tenths = number(0, 10);
        int what = number(0, 1);
        int n = number(0, 40);
        switch (random.nextInt(8)) {
            case 0:
                due(seed, "due(" + h + ")", oracle.due(h), x.due(h));
                break;
            case 1:
                due(seed, "holds(" + n + ")", oracle.holds(n), x.holds(n));
                break;
            case 2:
                due(seed, "deal(" + i + ")", oracle.deal(i), x.deal(i));
                break;
            case 3:
                due(seed, "raid(" + i + ")", oracle.raid(i), x.raid(i));
                break;
            case 4:
                due(seed, "odds(" + i + ", " + tenths + ", " + what + ")", oracle.odds(i, tenths, what),
                    x.odds(i, tenths, what));
                break;
            case 5:
                due(seed, "won(" + h + ")", oracle.won(h), x.won(h));
                break;
            case 6:
                due(seed, "split(" + what + ")", oracle.split(what), x.split(what));
                break;
            default:
                due(seed, "band(" + h + ")", oracle.band(h), x.band(h));
        }
    }
}
