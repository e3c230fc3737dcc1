/** Promises 16 to 27, 30 and 31: what is asked, told of pistols, marked and counted. */
final class AnswerEdges {
    private AnswerEdges() {
    }

    static void all() {
        due();
        holds();
        deal();
        raid();
        odds();
        won();
        split();
        band();
        saw();
        forget();
        keen();
        mark();
        count();
        trace();
    }

    private static void due() {
        Sentences.of("Promise 16", "DUE.");
        RingArticles x = Check.crew("h1 1 0;h3 1 0;s0 99;s60 0;w7;");
        x.chases(0);
        x.chases(1);
        Check.same("DUE", Check.row(43, 54), Check.row(x.due(0), x.due(1)));
        x.maroons(0);
        Check.same("of one MAROONED, too", Check.row(7, 90), Check.row(x.due(0), x.due(1)));
        x.maroons(1);
        Check.same("nobody is ABOARD", Check.row(0, 0), Check.row(x.due(0), x.due(1)));
        Sentences.of("Promise 16", "BAD.");
        for (int h : PromiseEdges.beyond(0, 1)) {
            Check.due("HAND " + h, Check.BAD, x.due(h));
        }
        Check.due("of six, the seventh", Check.BAD, Check.crew("h1 0 0;".repeat(6)).due(6));
    }

    private static void holds() {
        Sentences.of("Promise 17", "HOLDS, as bits.");
        RingArticles x = Check.crew("h1 0 0;".repeat(4) + "h9 0 0;h9 0 0;s0 99;");
        x.chases(0);
        Check.same("0, 4, 5, 8, 9, 36, 37, 99", Check.row(63, 63, 49, 49, 48, 48, 0, 0), Check.row(x.holds(0),
            x.holds(4), x.holds(5), x.holds(8), x.holds(9), x.holds(36), x.holds(37), x.holds(99)));
        Sentences.of("Promise 17", "BAD.");
        for (int n : new int[] {Check.LEAST, -256, -1, 100, 256, Check.MOST}) {
            Check.due("n is " + n, Check.BAD, x.holds(n));
            Check.due("n is " + n + ", nobody", Check.BAD, new RingArticles().holds(n));
        }
    }

    private static void deal() {
        Sentences.of("Promise 18", "DEAL: how far (p = -1), the HAND of a PIECE; NONE.");
        RingArticles x = Check.crew("h2 0 0;h1 0 0;p1;p2;p3;p4;p5;");
        // PARTS are 4 and 1 of 5, WORTH is 15: HAND 1 has the piece of 3, or else those of 1 and 2.
        Check.same("five PIECES", Check.row(0, 0, 0, 1, 0, 0), Rows.deals(x));
        x.maroons(0);
        Check.same("HAND 1 has all", Check.row(0, 1, 1, 1, 1, 1), Rows.deals(x));
        x.maroons(1);
        Check.same("nobody is ABOARD", Check.row(Check.NONE, Check.NONE, Check.NONE),
            Check.row(x.deal(-1), x.deal(0), x.deal(4)));
        Check.due("no HANDS, no PIECES", Check.NONE, new RingArticles().deal(-1));
        Check.due("no PIECES", 0, Check.crew("h1 0 0;").deal(-1));
        Sentences.of("Promise 18", "BAD.");
        for (int p : PromiseEdges.beyond(-1, 4)) {
            Check.due("PIECE " + p, Check.BAD, x.deal(p));
            Check.due("PIECE " + p + ", somebody ABOARD", Check.BAD, Check.crew("h1 0 0;p1;p1;p1;p1;p1;").deal(p));
        }
        Check.due("of one PIECE, the second", Check.BAD, Check.crew("h1 0 0;p1;").deal(1));
    }

    private static void raid() {
        Sentences.of("Promise 19", "RAID: how much (i = -1), the i-th SHIP (NONE: not so many).");
        RingArticles x = Check.crew("h1 5 0;s6 9;s5 1;s5 2;s0 4;s0 8;");
        Check.same("five SHIPS", Check.row(15, 1, 2, 0, 3, 4), Rows.raids(x));
        x.chases(1);
        Check.same("four SHIPS", Check.row(14, 2, 0, 3, 4, Check.NONE), Rows.raids(x));
        RingArticles none = Check.crew("h1 5 0;");
        Check.same("no SHIPS", Check.row(0, Check.NONE, Check.NONE),
            Check.row(none.raid(-1), none.raid(0), none.raid(4)));
        Sentences.of("Promise 19", "BAD (i -1 .. 4).");
        for (int i : PromiseEdges.beyond(-1, 4)) {
            Check.due("i is " + i, Check.BAD, x.raid(i));
            Check.due("i is " + i + ", no SHIPS", Check.BAD, none.raid(i));
        }
    }

    private static void odds() {
        Sentences.of("Promise 20", "ODDS: upper (what = 0), lower number (1), in least terms.");
        RingArticles x = Check.crew("h1 1 0;h1 1 0;s0 0;s1 0;s2 0;s3 0;");
        int[][] due = {{1, 1, 1, 1, 1, 1, 1, 1}, {1, 1, 24, 25, 3, 4, 0, 1}, {1, 1, 16, 25, 1, 4, 0, 1},
            {0, 1, 0, 1, 0, 1, 0, 1}};
        for (int s = 0; s < 4; s++) {
            Check.same("SHIP " + s, due[s], Check.row(x.odds(s, 0, 0), x.odds(s, 0, 1), x.odds(s, 2, 0),
                x.odds(s, 2, 1), x.odds(s, 5, 0), x.odds(s, 5, 1), x.odds(s, 10, 0), x.odds(s, 10, 1)));
        }
        x.chases(2);
        Check.same("of one that was met", Check.row(1, 4), Check.row(x.odds(2, 5, 0), x.odds(2, 5, 1)));
        Sentences.of("Promise 20", "BAD.");
        for (int s : PromiseEdges.beyond(0, 3)) {
            Check.due("SHIP " + s, Check.BAD, x.odds(s, 5, 0));
        }
        for (int tenths : PromiseEdges.beyond(0, 10)) {
            Check.due("x is " + tenths, Check.BAD, x.odds(0, tenths, 1));
        }
        for (int what : PromiseEdges.beyond(0, 1)) {
            Check.due("what " + what, Check.BAD, x.odds(0, 5, what));
        }
    }

    private static void won() {
        Sentences.of("Promise 21", "WON; NONE.");
        RingArticles x = Check.crew("h1 0 0;h1 0 0;h1 0 0;l0 1;");
        Check.same("WON", Check.row(1, 0, 1), Check.row(x.won(0), x.won(1), x.won(2)));
        x.maroons(0);
        Check.same("HAND 0 is not ABOARD", Check.row(Check.NONE, 1, 1), Check.row(x.won(0), x.won(1), x.won(2)));
        Sentences.of("Promise 21", "BAD.");
        for (int h : PromiseEdges.beyond(0, 2)) {
            Check.due("HAND " + h, Check.BAD, x.won(h));
        }
    }

    private static void split() {
        Sentences.of("Promise 22", "SPLIT: how many (what = 0), the first (1, bits; NONE: nobody is ABOARD).");
        RingArticles x = Check.crew("h1 0 0;".repeat(6) + "l0 5;");
        Check.same("six", Check.row(16, 33), Rows.splits(x));
        for (int h = 0; h < 5; h++) {
            x.maroons(h);
        }
        Check.same("the sixth alone", Check.row(1, 32), Rows.splits(x));
        x.maroons(5);
        Check.same("nobody", Check.row(0, Check.NONE), Rows.splits(x));
        Sentences.of("Promise 22", "BAD.");
        for (int what : PromiseEdges.beyond(0, 1)) {
            Check.due("what " + what, Check.BAD, x.split(what));
        }
    }

    private static void band() {
        Sentences.of("Promise 23", "BAND, as bits.");
        RingArticles x = Check.crew("h1 0 0;".repeat(6) + "l5 0;l0 5;l5 4;l4 5;l5 3;");
        Check.same("bands", Check.row(32, 0, 0, 0, 32, 17), Check.row(x.band(0), x.band(1), x.band(2), x.band(3),
            x.band(4), x.band(5)));
        for (int h = 0; h < 6; h++) {
            x.maroons(h);
        }
        Check.same("nobody is ABOARD", Check.row(0, 0), Check.row(x.band(0), x.band(5)));
        Sentences.of("Promise 23", "BAD.");
        for (int h : PromiseEdges.beyond(0, 5)) {
            Check.due("HAND " + h, Check.BAD, x.band(h));
        }
        Check.due("of one HAND, the second", Check.BAD, Check.crew("h1 0 0;").band(1));
    }

    private static void saw() {
        Sentences.of("Promise 24", "SAW: how much there is.");
        RingArticles x = Check.crew("h1 0 0;h1 0 0;h1 0 0;");
        Check.same("one, two", Check.row(1, 2), Check.row(x.saw(7, 2), x.saw(1, 0)));
        Sentences.of("Promise 24", "BAD (HANDS there are; h is not in it); FULL.");
        for (int set : new int[] {Check.LEAST, Check.LEAST + 1, -1, 0, 8, 9, 15, 64, 1 << 30, Check.MOST}) {
            Check.due("set " + set, Check.BAD, x.saw(set, 0));
        }
        for (int h : PromiseEdges.beyond(0, 2)) {
            Check.due("HAND " + h, Check.BAD, x.saw(7, h));
        }
        Check.same("h is not in it", Check.row(Check.BAD, Check.BAD, Check.BAD),
            Check.row(x.saw(6, 0), x.saw(5, 1), x.saw(3, 2)));
        Check.due("two still", 2, x.count(4));
        x.maroons(2);
        Check.due("one MAROONED is a HAND", 3, x.saw(4, 2));
        x.saw(1, 0);
        x.saw(1, 0);
        Check.due("the sixth", 6, x.saw(3, 1));
        Check.due("a seventh", Check.FULL, x.saw(6, 1));
        Check.same("six still, and as they were", Check.row(6, 4), Check.row(x.count(4), x.keen()));
        Check.due("no HANDS", Check.BAD, new RingArticles().saw(1, 0));
    }

    private static void forget() {
        Sentences.of("Promise 25", "Nothing SAW: how much there was.");
        RingArticles x = Check.crew("h1 0 0;h1 0 0;");
        Check.due("nothing", 0, x.forget());
        for (int i = 0; i < 6; i++) {
            x.saw(3, 0);
        }
        Check.due("six", 6, x.forget());
        Check.due("nothing any more", 0, x.forget());
        Check.same("as if nothing was told", Check.row(0, 3), Check.row(x.count(4), x.keen()));
        Check.due("there is room again", 1, x.saw(3, 1));
        Check.due("of the new one alone", 2, x.keen());
    }

    private static void keen() {
        Sentences.of("Promise 26", "KEEN, as bits.");
        for (int hands = 0; hands <= 6; hands++) {
            Check.due("nothing told, of " + hands, (1 << hands) - 1, Check.crew("h1 0 0;".repeat(hands)).keen());
        }
        RingArticles x = Check.crew("h1 0 0;".repeat(6));
        x.saw(63, 5);
        Check.due("the last one", 32, x.keen());
        x.saw(33, 0);
        Check.due("nobody", 0, x.keen());
    }

    private static void mark() {
        Sentences.of("Promise 27", "MARK.");
        RingArticles x = Check.crew("h5 4 3;h1 1 1;");
        Check.same("KINDS 0 to 5", Check.row(5, 9, 5, 18, 8, 5), Rows.marks(x, 0));
        Sentences.of("Promise 27", "NO: BAD.");
        for (int kind : PromiseEdges.beyond(0, 5)) {
            Check.due("KIND " + kind, Check.NO, x.mark(kind, 0));
        }
        for (int h : PromiseEdges.beyond(0, 1)) {
            Check.due("HAND " + h, Check.NO, x.mark(5, h));
        }
        Check.due("no HANDS", Check.NO, new RingArticles().mark(0, 0));
        Check.due("THE TRACE of what was not refused", 111226, x.trace());
    }

    private static void count() {
        Sentences.of("Promise 30", "0 HANDS, 1 SHIPS, 2 PIECES, 3 WOUND, 4 SAW, 5 how many may be UNDONE, 6 bytes of "
            + "THE TEXT.");
        RingArticles x = Check.crew("h1 0 0;".repeat(6) + "s0 9;".repeat(5) + "p1;".repeat(5) + "w50;");
        for (int i = 0; i < 12; i++) {
            x.saw(1, 0);
            x.shares();
        }
        Check.tell(x, " ".repeat(151));
        Check.same("all of it", Check.row(6, 5, 5, 50, 6, 10, 150), Rows.counts(x));
        Check.same("nothing", Check.row(0, 0, 0, 10, 0, 0, 0), Rows.counts(new RingArticles()));
        Sentences.of("Promise 30", "BAD.");
        for (int what : PromiseEdges.beyond(0, 6)) {
            Check.due("what " + what, Check.BAD, x.count(what));
        }
    }

    private static void trace() {
        Sentences.of("Promise 31", "THE TRACE.");
        RingArticles x = Check.crew("h1 1 1;s0 1;");
        Check.due("at first", 0, x.trace());
        x.mark(3, 0);
        Check.due("BOY, CARPENTER, HAND", 1011, x.trace());
        Check.due("asked again", 1011, x.trace());
        x.keep(0);
        x.chases(0);
        x.mark(0, 0);
        x.undo();
        x.back(0);
        Check.due("nothing of it is UNDONE", 1012, x.trace());
        for (int i = 0; i < 400; i++) {
            x.mark(5, 0);
        }
        Check.due("400 times COOK and HAND", 1012 + 400L * 100001, x.trace());
    }
}
