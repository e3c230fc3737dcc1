/** Promises 16 to 27 and 31: what is asked, changing nothing but THE TRACE and what was SAW. */
public final class AskingTest {
    public static void main(String[] args) {
        dues();
        holding();
        dealing();
        dealingEdges();
        raiding();
        raidingEdges();
        odds();
        winning();
        splitting();
        bands();
        seeing();
        marks();
        Check.end();
    }

    private static void dues() {
        RingArticles x = Check.crew(Check.CREW);
        Check.same("16: nothing yet", Check.row(0, 0, 0, 0), Rows.dues(x));
        x.chases(1);
        x.chases(3);
        x.chases(0);
        String before = Look.at(x);
        Check.same("16: DUE, the WOUND too", Check.row(48, 12, 18, 21), Rows.dues(x));
        Look.same("16: nothing is changed", before, Look.at(x));
        x.maroons(3);
        Check.same("16: MAROONED, his WOUND alone", Check.row(56, 14, 21, 15), Rows.dues(x));
        x.maroons(0);
        x.maroons(1);
        x.maroons(2);
        Check.same("16: nobody is ABOARD", Check.row(0, 0, 0, 0), Rows.dues(x));
        for (int h : new int[] {-1, 4, Check.LEAST, Check.MOST}) {
            Check.due("16: no hand " + h, Check.BAD, x.due(h));
        }
    }

    private static void holding() {
        RingArticles x = Check.crew(Check.CREW);
        x.chases(1);
        x.chases(3);
        x.chases(0);
        Check.due("17: 0", 15, x.holds(0));
        Check.due("17: 12", 15, x.holds(12));
        Check.due("17: 13", 13, x.holds(13));
        Check.due("17: 18", 13, x.holds(18));
        Check.due("17: 19", 9, x.holds(19));
        Check.due("17: 22", 1, x.holds(22));
        Check.due("17: 99", 0, x.holds(99));
        x.maroons(3);
        Check.due("17: ABOARD alone", 7, x.holds(0));
        x.maroons(0);
        x.maroons(1);
        x.maroons(2);
        Check.due("17: nobody", 0, x.holds(0));
        for (int n : new int[] {-1, 100, Check.LEAST, Check.MOST}) {
            Check.due("17: by " + n, Check.BAD, x.holds(n));
        }
    }

    private static void dealing() {
        // PARTS 2 and 1 of 3, WORTH 10 and 5: 10 times 3 is 2 times 15.
        RingArticles x = Check.crew("h1 0 0;h1 0 0;l0 1;p5;p10;");
        Check.same("18: exactly", Check.row(0, 1, 0), Rows.deals(x));
        x.votes(1);
        Check.same("18: by PARTS as they are then", Check.row(0, 0, 1), Rows.deals(x));
        x.maroons(1);
        Check.same("18: one has all", Check.row(0, 0, 0), Rows.deals(x));
        // PARTS 2, 1, 1 of 4, WORTH 8: due are 16, 8, 8; one piece brings 32 at once.
        RingArticles one = Check.crew("h1 0 0;h1 0 0;h1 0 0;p8;");
        Check.same("18: one piece", Check.row(16, 0), Rows.deals(one));
        // PARTS 2 and 2 of 4: each has one of two alike; the first way is 0, 1.
        RingArticles even = Check.crew("h1 0 0;h2 0 0;p3;p3;");
        Check.same("18: of several the first", Check.row(0, 0, 1), Rows.deals(even));
        RingArticles far = Check.crew("h9 0 0;h1 0 0;p50;");
        Check.same("18: up or down", Check.row(50, 0), Rows.deals(far));
        Check.due("18: nothing is changed", 0, far.count(5));
    }

    private static void dealingEdges() {
        RingArticles none = Check.crew("h1 0 0;");
        Check.due("18: no pieces", 0, none.deal(-1));
        Check.due("18: no such piece", Check.BAD, none.deal(0));
        RingArticles x = Check.crew("h1 0 0;h1 0 0;p1;");
        x.maroons(0);
        Check.due("18: to those ABOARD", 1, x.deal(0));
        x.maroons(1);
        Check.due("18: nobody, how far", Check.NONE, x.deal(-1));
        Check.due("18: nobody, whose", Check.NONE, x.deal(0));
        Check.due("18: BAD ahead of NONE", Check.BAD, x.deal(1));
        for (int p : new int[] {-2, 1, 5, Check.LEAST, Check.MOST}) {
            Check.due("18: no piece " + p, Check.BAD, x.deal(p));
        }
    }

    private static void raiding() {
        RingArticles x = Check.crew(Check.CREW);
        Check.same("19: orders", Check.row(119, 0, 1, 2, 3, Check.NONE), Rows.raids(x));
        // FORCE 5: ship 0 is too strong, and would cost what ship 1 needs.
        RingArticles y = Check.crew("h1 2 0;h1 3 0;s6 90;s5 10;s4 7;s3 1;");
        Check.same("19: the weakest last", Check.row(18, 1, 0, 2, 3, Check.NONE), Rows.raids(y));
        String before = Look.at(y);
        y.raid(-1);
        Look.same("19: nothing is changed", before, Look.at(y));
        y.chases(1);
        Check.same("19: those not met", Check.row(8, 0, 2, 3, Check.NONE, Check.NONE), Rows.raids(y));
        y.chases(0);
        y.chases(2);
        y.chases(3);
        Check.same("19: all met", Check.row(0, Check.NONE, Check.NONE, Check.NONE, Check.NONE, Check.NONE),
            Rows.raids(y));
    }

    private static void raidingEdges() {
        // Once the weakest fights for 0, FORCE falls no more.
        RingArticles x = Check.crew("h1 1 0;h1 4 0;s9 1;s9 1;s9 1;s4 50;s5 20;");
        Check.same("19: FORCE falls by the weakest alone", Check.row(70, 3, 4, 0, 1, 2), Rows.raids(x));
        RingArticles nobody = Check.crew("s1 9;s0 4;s0 5;");
        Check.same("19: nobody", Check.row(9, 0, 1, 2, Check.NONE, Check.NONE), Rows.raids(nobody));
        for (int i : new int[] {-2, 5, Check.LEAST, Check.MOST}) {
            Check.due("19: no place " + i, Check.BAD, x.raid(i));
        }
    }

    private static void odd(RingArticles x, int s, int tenths, int upper, int lower) {
        Check.same("20: odds of " + s + " by " + tenths, Check.row(upper, lower), Rows.odds(x, s, tenths));
    }

    private static void odds() {
        RingArticles x = Check.crew("h1 2 0;h1 3 0;s0 0;s2 0;s3 0;s5 0;s6 0;");
        odd(x, 0, 3, 1, 1);
        odd(x, 1, 3, 91, 100);
        odd(x, 2, 3, 7, 10);
        odd(x, 3, 3, 49, 100);
        odd(x, 4, 3, 0, 1);
        odd(x, 3, 0, 1, 1);
        odd(x, 3, 10, 0, 1);
        odd(x, 0, 10, 1, 1);
        odd(x, 3, 5, 1, 4);
        x.chases(4);
        odd(x, 3, 5, 0, 1);
        odd(x, 4, 5, 0, 1);
        x.maroons(0);
        odd(x, 2, 4, 3, 5);
        x.maroons(1);
        odd(x, 0, 5, 1, 1);
        odd(x, 1, 5, 0, 1);
        RingArticles six = Check.crew("h1 9 0;".repeat(6) + "s54 0;");
        odd(six, 0, 1, 531441, 1000000);
        for (int s : new int[] {-1, 1, Check.LEAST, Check.MOST}) {
            Check.due("20: no ship " + s, Check.BAD, six.odds(s, 1, 0));
        }
        for (int tenths : new int[] {-1, 11, Check.LEAST, Check.MOST}) {
            Check.due("20: by " + tenths, Check.BAD, six.odds(0, tenths, 0));
        }
        for (int what : new int[] {-1, 2, Check.LEAST, Check.MOST}) {
            Check.due("20: what " + what, Check.BAD, six.odds(0, 1, what));
        }
    }

    private static void winning() {
        RingArticles x = Check.crew(Check.CREW);
        Check.due("21: the CAPTAIN, two of four", 1, x.won(0));
        Check.due("21: all of four", 0, x.won(1));
        Check.due("21: one of four", 2, x.won(2));
        Check.due("21: two of four", 1, x.won(3));
        x.maroons(1);
        Check.due("21: one of three", 1, x.won(0));
        Check.due("21: not ABOARD", Check.NONE, x.won(1));
        x.maroons(0);
        x.maroons(2);
        Check.due("21: alone", 0, x.won(3));
        Check.due("21: alone of six", 3, Check.crew("h1 0 0;".repeat(6)).won(5));
        for (int h : new int[] {-1, 4, Check.LEAST, Check.MOST}) {
            Check.due("21: no hand " + h, Check.BAD, x.won(h));
        }
    }

    private static void splits(String what, RingArticles x, int sets, int first) {
        Check.same("22: " + what + ", how many and the first", Check.row(sets, first), Rows.splits(x));
    }

    private static void splitting() {
        splits("nobody likes anybody", Check.crew("h1 0 0;".repeat(3)), 4, 1);
        splits("one way", Check.crew("h1 0 0;h1 0 0;l0 1;"), 1, 3);
        splits("two on each is no more", Check.crew("h1 0 0;".repeat(4) + "l0 1;l0 2;"), 6, 3);
        RingArticles x = Check.crew("h1 0 0;".repeat(6) + "l0 1;l1 0;l2 3;l3 2;l4 5;l5 4;");
        splits("pairs", x, 4, 3);
        x.maroons(0);
        splits("with the lowest ABOARD", x, 4, 2);
        x.maroons(5);
        splits("those ABOARD alone", x, 4, 2);
        for (int h = 1; h < 5; h++) {
            x.maroons(h);
        }
        splits("nobody", x, 0, Check.NONE);
        for (int what : new int[] {-1, 2, Check.LEAST, Check.MOST}) {
            Check.due("22: what " + what, Check.BAD, x.split(what));
        }
    }

    private static void bands() {
        RingArticles x = Check.crew(Check.CREW);
        Check.due("23: both ways", 2, x.band(0));
        Check.due("23: several", 9, x.band(1));
        Check.due("23: one way alone", 0, x.band(2));
        x.maroons(0);
        Check.due("23: those ABOARD", 8, x.band(1));
        Check.due("23: of a HAND MAROONED", 2, x.band(0));
        for (int h : new int[] {-1, 4, Check.LEAST, Check.MOST}) {
            Check.due("23: no hand " + h, Check.BAD, x.band(h));
        }
    }

    private static void seeing() {
        RingArticles x = Check.crew(Check.CREW);
        Check.due("26: nothing told", 15, x.keen());
        Check.due("24: first", 1, x.saw(3, 0));
        Check.due("26: another one had it", 13, x.keen());
        Check.due("24: the same again", 2, x.saw(3, 0));
        Check.due("24: alone", 3, x.saw(8, 3));
        Check.due("26: as before", 13, x.keen());
        Check.due("24: all", 4, x.saw(15, 2));
        Check.due("26: one is left", 4, x.keen());
        x.maroons(2);
        Check.due("26: ABOARD or not", 4, x.keen());
        Check.due("24: whom one MAROONED beats", 5, x.saw(12, 2));
        Check.due("24: sixth", 6, x.saw(6, 1));
        Check.due("26: nobody is left", 0, x.keen());
        Check.due("24: a seventh", Check.FULL, x.saw(6, 1));
        Check.due("24: BAD ahead of FULL", Check.BAD, x.saw(0, 0));
        Check.due("25: how much there was", 6, x.forget());
        Check.due("25: nothing then", 0, x.forget());
        Check.due("26: all again", 15, x.keen());
        for (int set : new int[] {0, 16, 17, -1, Check.LEAST, Check.MOST}) {
            Check.due("24: no set " + set, Check.BAD, x.saw(set, 0));
        }
        for (int h : new int[] {-1, 2, 4, 32, 33, Check.LEAST, Check.MOST}) {
            Check.due("24: not in it " + h, Check.BAD, x.saw(3, h));
        }
        Check.due("24: nothing was told", 0, x.count(4));
        Check.due("24: no hands, no sets", Check.BAD, new RingArticles().saw(1, 0));
        x.saw(3, 0);
        x.chases(0);
        x.undo();
        Check.due("24: undo leaves it", 1, x.count(4));
    }

    private static void marks() {
        RingArticles x = Check.crew(Check.CREW);
        x.chases(3);
        x.chases(0);
        Check.due("27: HAND", 1, x.mark(0, 3));
        Check.due("31: HAND", 1, x.trace());
        Check.due("27: CARPENTER", 2, x.mark(1, 3));
        Check.due("31: CARPENTER", 12, x.trace());
        Check.due("27: MUSICIAN", 0, x.mark(2, 3));
        Check.due("31: MUSICIAN", 113, x.trace());
        Check.due("27: BOY", 4, x.mark(3, 3));
        Check.due("31: BOY", 1124, x.trace());
        Check.due("27: SICK", 4, x.mark(4, 3));
        Check.due("31: SICK", 11225, x.trace());
        Check.due("27: COOK", 4, x.mark(5, 1));
        Check.due("31: COOK", 111226, x.trace());
        Check.due("27: FIGHT as told", 20, x.mark(3, 2));
        x.undo();
        x.keep(0);
        x.back(0);
        x.maroons(3);
        Check.due("27: MAROONED, too", 4, x.mark(4, 3));
        long before = x.trace();
        for (int kind : new int[] {-1, 6, Check.LEAST, Check.MOST}) {
            Check.due("27: no kind " + kind, Check.NO, x.mark(kind, 0));
        }
        for (int h : new int[] {-1, 4, Check.LEAST, Check.MOST}) {
            Check.due("27: no hand " + h, Check.NO, x.mark(0, h));
        }
        Check.due("31: what is refused leaves it", before, x.trace());
        Check.due("31: in all", 111226 + 1011 + 10101, before);
        below();
    }

    private static void below() {
        RingArticles x = Check.crew("h1 0 0;s9 0;s9 0;s9 0;");
        x.chases(0);
        x.chases(1);
        x.chases(2);
        Check.due("27: below 0", -2, x.mark(2, 0));
    }
}
