/** Promises 1 to 7 and 30: a new object, THE TEXT, what it tells, and counts. */
public final class ArticlesTest {
    private static final String HAND = "h1 0 0;";

    public static void main(String[] args) {
        newObject();
        typing();
        clearing();
        whatIsTold();
        readAnew();
        readManyTimes();
        faults();
        faultsOfTooMany();
        faultsOfNumbers();
        nothingChangesByAFault();
        wrongNumbers();
        counts();
        Check.end();
    }

    private static void newObject() {
        RingArticles x = new RingArticles();
        int[] counts = new int[7];
        int[] nows = new int[7];
        for (int i = 0; i < 7; i++) {
            counts[i] = x.count(i);
            nows[i] = x.now(i);
        }
        Check.same("1: counts of a new object", Check.row(0, 0, 0, 10, 0, 0, 0), counts);
        Check.same("1: now of a new object", Check.row(0, Check.NONE, 0, 0, 0, 0, 0), nows);
        Check.due("1: hand", Check.BAD, x.hand(0, 0));
        Check.due("1: ship", Check.BAD, x.ship(0, 0));
        Check.due("1: piece", Check.BAD, x.piece(0));
        Check.due("1: trace", 0, x.trace());
        Check.due("1: keen", 0, x.keen());
        Check.due("1: undo", Check.STATE, x.undo());
        Check.due("1: shares", Check.STATE, x.shares());
        Check.due("1: back", Check.STATE, x.back(0));
        Check.due("1: deal", Check.NONE, x.deal(-1));
        Check.due("1: raid", 0, x.raid(-1));
        Check.due("1: split", 0, x.split(0));
        Check.due("1: split, first", Check.NONE, x.split(1));
    }

    private static void typing() {
        RingArticles x = new RingArticles();
        Check.due("2: a byte below", Check.BAD, x.type(-1));
        Check.due("2: a byte above", Check.BAD, x.type(256));
        Check.due("2: least", Check.BAD, x.type(Check.LEAST));
        Check.due("2: most", Check.BAD, x.type(Check.MOST));
        Check.due("2: byte 0", 1, x.type(0));
        Check.due("2: byte 255", 2, x.type(255));
        for (int i = 3; i <= 150; i++) {
            Check.due("2: byte " + i, i, x.type(32));
        }
        Check.due("2: byte 151", Check.FULL, x.type(32));
        Check.due("2: BAD ahead of FULL", Check.BAD, x.type(256));
        Check.due("2: nothing came", 150, x.count(6));
    }

    private static void clearing() {
        RingArticles x = new RingArticles();
        Check.due("3: empty", 0, x.clear());
        Check.tell(x, "h1 ");
        Check.due("3: three", 3, x.clear());
        Check.due("3: empty again", 0, x.clear());
        Check.due("3: bytes", 0, x.count(6));
        Check.due("3: what was typed is gone", 1, Check.read(x, "s1 2;"));
    }

    private static void whatIsTold() {
        RingArticles x = new RingArticles();
        Check.due("4: items", 17, Check.read(x, Check.CREW));
        Check.due("4: THE TEXT is empty then", 0, x.count(6));
        Check.same("5: HALVES", Check.row(4, 2, 3, 1), Check.hands(x, 0));
        Check.same("5: FIGHT", Check.row(5, 3, 7, 1), Check.hands(x, 1));
        Check.same("5: EYES", Check.row(2, 9, 1, 4), Check.hands(x, 2));
        Check.same("5: LIKES", Check.row(2, 9, 2, 2), Check.hands(x, 3));
        Check.same("5: ABOARD", Check.row(1, 1, 1, 1), Check.hands(x, 4));
        for (int what = 5; what <= 9; what++) {
            Check.same("5: " + what + " at first", Check.row(0, 0, 0, 0), Check.hands(x, what));
        }
        int[] guns = {12, 16, 3, 30};
        int[] gold = {40, 70, 9, 99};
        for (int s = 0; s < 4; s++) {
            Check.due("6: GUNS of " + s, guns[s], x.ship(s, 0));
            Check.due("6: GOLD of " + s, gold[s], x.ship(s, 1));
            Check.due("6: how " + s + " is", 0, x.ship(s, 2));
        }
        Check.due("7: WORTH", 30, x.piece(0));
        Check.due("7: WORTH", 12, x.piece(1));
        Check.due("7: WORTH", 7, x.piece(2));
        x.chases(0);
        x.chases(3);
        Check.due("6: TAKEN", 1, x.ship(0, 2));
        Check.due("6: let go", 2, x.ship(3, 2));
        Check.due("6: not met", 0, x.ship(1, 2));
    }

    private static void readAnew() {
        RingArticles x = Check.crew(Check.CREW);
        x.chases(0);
        x.chases(3);
        x.shares();
        x.hides(1, 5);
        x.chases(1);
        x.maroons(0);
        x.saw(1, 0);
        x.keep(0);
        x.keep(1);
        x.mark(0, 0);
        Check.due("4: told anew", 4, Check.read(x, "h2 3 4;h1 1 1;h1 2 3;s1 1;"));
        int[] counts = new int[7];
        int[] nows = new int[7];
        for (int i = 0; i < 7; i++) {
            counts[i] = x.count(i);
            nows[i] = x.now(i);
        }
        Check.same("4: counts", Check.row(3, 1, 0, 10, 0, 0, 0), counts);
        Check.same("4: now", Check.row(0, 0, 7, 6, 6, 0, 0), nows);
        for (int what = 5; what <= 9; what++) {
            Check.same("4: hands as new, " + what, Check.row(0, 0, 0), Check.hands(x, what));
        }
        Check.same("4: LIKES are told anew", Check.row(0, 0, 0), Check.hands(x, 3));
        Check.due("4: IMAGE 0 is gone", Check.STATE, x.back(0));
        Check.due("4: IMAGE 1 is gone", Check.STATE, x.back(1));
        Check.due("4: nothing to be UNDONE", Check.STATE, x.undo());
        Check.due("4: nothing SAW", 7, x.keen());
        Check.due("4: THE TRACE stays", 1, x.trace());
        Check.due("4: an empty text tells that there is nothing", 0, x.articles());
        Check.due("4: nobody", 0, x.count(0));
        Check.due("4: NONE is CAPTAIN", Check.NONE, x.now(1));
        Check.due("4: blanks alone", 0, Check.read(x, "   "));
        Check.due("4: THE TEXT is empty then", 0, x.count(6));
    }

    private static void readManyTimes() {
        RingArticles x = new RingArticles();
        for (int time = 0; time < 3; time++) {
            Check.due("4: all of it", 17, Check.read(x, Check.CREW));
            x.chases(1);
            x.chases(3);
            Check.due("4: TAKEN", 1, x.ship(1, 2));
            Check.due("4: three items", 3, Check.read(x, "h1 0 0;h1 0 0;s60 1;"));
            Check.same("4: nobody LIKES anybody", Check.row(0, 0), Check.hands(x, 3));
            Check.due("4: one ship", 1, x.count(1));
            Check.due("4: no pieces", 0, x.count(2));
            Check.due("4: WOUND as at first", 10, x.count(3));
            x.chases(0);
            Check.due("4: let go", 2, x.ship(0, 2));
        }
    }

    private static void fault(String text, int place) {
        RingArticles x = new RingArticles();
        Check.due("4: FAULT of '" + text + "'", -10 - place, Check.read(x, text));
        Check.due("4: THE TEXT stays, '" + text + "'", text.length(), x.clear());
    }

    private static void well(String text, int items) {
        Check.due("4: items of '" + text + "'", items, Check.read(new RingArticles(), text));
    }

    private static void faults() {
        fault("h", 1);
        fault("h  ", 3);
        fault("h1", 2);
        fault("h1 0 0", 6);
        fault("h1 0 0 ", 7);
        fault("s1", 2);
        fault("s1;", 2);
        fault("p", 1);
        fault("w0", 2);
        fault("x;", 0);
        fault("hh1 0 0;", 0);
        fault("hand 1 0 0;", 0);
        fault("lo 1;", 0);
        fault("hz1 0 0;", 0);
        fault("ah1 0 0;", 0);
        fault(";", 0);
        fault("5;", 0);
        fault("100;", 0);
        fault(HAND + ";", 7);
        fault(HAND + " 5", 8);
        fault("h1 0 0 0;", 7);
        fault("h1 0;", 4);
        fault("h;", 1);
        fault("h1 x 0;", 3);
        fault("h1 0 0 s1 1;", 7);
        fault("H1 0 0;", 0);
        fault("h1 -1 0;", 3);
        fault("h1\t0 0;", 2);
        fault("h1 0 0\n;", 6);
        fault("h1 0 0;" + (char) 0, 7);
        fault("h1 0 0;" + (char) 255, 7);
        fault("h{ 0 0;", 1);
        fault("h` 0 0;", 1);
        fault("h/ 0 0;", 1);
        fault("h: 0 0;", 1);
        well("", 0);
        well(" ", 0);
        well("  h 1   0 0  ;  ", 1);
        well("h1 0 0;h1 0 0;l0 1;l0 1;l 1 0 ;", 5);
        well("w0;s0 0;p1;h9 9 9;s60 99;p99;", 6);
        well("w50;", 1);
    }

    private static void faultsOfTooMany() {
        String six = HAND.repeat(6);
        well(six, 6);
        fault(six + HAND, 42);
        fault(six + "h", 42);
        fault(six + " h", 43);
        well("s1 1;".repeat(5), 5);
        fault("s1 1;".repeat(6), 25);
        well("p1;".repeat(5), 5);
        fault("p1;".repeat(6), 15);
        fault("w0;w0;", 3);
        fault("w10; w", 5);
    }

    private static void faultsOfNumbers() {
        fault("h0 0 0;", 1);
        fault("h10 0 0;", 1);
        fault("h1 10 0;", 3);
        fault("h1 0 10;", 5);
        fault("h01 0 0;", 1);
        fault("h1 00 0;", 3);
        fault("h1 0 000", 5);
        fault("l0 1;", 1);
        fault("l", 1);
        fault(HAND + "l0 0;", 10);
        fault(HAND + "l0 1;", 10);
        fault(HAND + "l1 0;", 8);
        fault(HAND + "l0 1;" + HAND, 10);
        fault(HAND + HAND + "l1 1;", 17);
        fault("s61 0;", 1);
        fault("s0 100;", 3);
        fault("s100 0;", 1);
        fault("p0;", 1);
        fault("p100;", 1);
        fault("p4294967297;", 1);
        fault("p99999999999999999999999999;", 1);
        fault("w51;", 1);
        fault("w01;", 1);
    }

    private static void nothingChangesByAFault() {
        RingArticles x = Check.crew(Check.CREW);
        x.chases(0);
        x.saw(3, 1);
        x.keep(0);
        Check.due("4: a FAULT behind items that are well", -25, Check.read(x, "h1 0 0;w3;s1 1;x"));
        Check.due("4: HANDS as before", 4, x.count(0));
        Check.due("4: SHIPS as before", 4, x.count(1));
        Check.due("4: WOUND as before", 15, x.count(3));
        Check.due("4: SAW as before", 1, x.count(4));
        Check.due("4: UNDONE as before", 1, x.count(5));
        Check.due("4: THE TEXT as before", 16, x.count(6));
        Check.due("4: THE CHEST as before", 40, x.now(0));
        Check.due("4: HALVES as before", 4, x.hand(0, 0));
        Check.due("4: LIKES as before", 9, x.hand(1, 3));
        Check.due("4: IMAGE as before", 40, x.back(0));
    }

    private static void wrongNumbers() {
        RingArticles x = Check.crew(Check.CREW);
        for (int h : new int[] {-1, 4, 6, Check.LEAST, Check.MOST}) {
            Check.due("5: no hand " + h, Check.BAD, x.hand(h, 0));
            Check.due("6: no ship " + h, Check.BAD, x.ship(h, 0));
        }
        for (int p : new int[] {-1, 3, 5, Check.LEAST, Check.MOST}) {
            Check.due("7: no piece " + p, Check.BAD, x.piece(p));
        }
        for (int what : new int[] {-1, 10, Check.LEAST, Check.MOST}) {
            Check.due("5: hand, what " + what, Check.BAD, x.hand(0, what));
        }
        for (int what : new int[] {-1, 3, Check.LEAST, Check.MOST}) {
            Check.due("6: ship, what " + what, Check.BAD, x.ship(0, what));
        }
    }

    private static void counts() {
        RingArticles x = Check.crew(Check.CREW);
        x.saw(3, 0);
        x.saw(3, 0);
        x.chases(0);
        x.type('h');
        int[] got = new int[7];
        for (int i = 0; i < 7; i++) {
            got[i] = x.count(i);
        }
        Check.same("30: counts", Check.row(4, 4, 3, 15, 2, 1, 1), got);
        for (int what : new int[] {-1, 7, Check.LEAST, Check.MOST}) {
            Check.due("30: count, what " + what, Check.BAD, x.count(what));
        }
    }
}
