/** Promises 1 to 15, 28 and 29: a new object, the articles, what is done, undone and kept. */
final class PromiseEdges {
    /** Numbers that are no HAND, SHIP, PIECE, KIND or IMAGE, nor what any call asks for. */
    static final int[] FAR = {Check.LEAST, Check.LEAST + 1, -65536, -256, -32, -9, -5, -2, 31, 32, 33, 64, 256, 65536,
        1 << 30, Check.MOST};

    private PromiseEdges() {
    }

    static void all() {
        newObject();
        type();
        clear();
        articles();
        hand();
        ship();
        piece();
        chases();
        shares();
        votes();
        maroons();
        hides();
        finds();
        undo();
        now();
        keep();
        back();
    }

    /** Those of FAR, and the numbers just beyond the least and the most. */
    static int[] beyond(int least, int most) {
        int[] row = new int[FAR.length + 2];
        System.arraycopy(FAR, 0, row, 0, FAR.length);
        row[FAR.length] = least - 1;
        row[FAR.length + 1] = most + 1;
        return row;
    }

    private static void newObject() {
        Sentences.of("Promise 1", "As told; nobody, nothing.");
        Check.crew(Check.CREW).chases(1);
        RingArticles x = new RingArticles();
        int bad = Check.BAD;
        int none = Check.NONE;
        for (int what = 0; what <= 6; what++) {
            Check.due("count " + what, what == 3 ? 10 : 0, x.count(what));
            Check.due("now " + what, what == 1 ? none : 0, x.now(what));
        }
        Check.same("no such thing", Check.row(bad, bad, bad, bad, bad, bad, bad, bad, bad, bad, bad, bad, bad, bad),
            Check.row(x.hand(0, 0), x.ship(0, 0), x.piece(0), x.chases(0), x.votes(0), x.maroons(0), x.hides(0, 1),
                x.finds(0), x.due(0), x.deal(0), x.odds(0, 0, 0), x.won(0), x.band(0), x.saw(1, 0)));
        Check.same("nobody", Check.row(Check.STATE, Check.STATE, Check.STATE, Check.STATE, Check.NO, none, 0, none),
            Check.row(x.shares(), x.undo(), x.back(0), x.back(1), x.mark(0, 0), x.deal(-1), x.raid(-1), x.raid(0)));
        Check.same("nothing", Check.row(0, 0, none, 0, 0, 0, 0), Check.row(x.holds(0), x.split(0), x.split(1),
            x.forget(), x.keen(), x.clear(), (int) x.trace()));
    }

    private static void type() {
        Sentences.of("Promise 2", "A byte (0 .. 255) comes to THE TEXT: how many it has.");
        RingArticles x = new RingArticles();
        Check.due("0", 1, x.type(0));
        Check.due("255", 2, x.type(255));
        for (int i = 3; i <= 150; i++) {
            Check.due("byte " + i, i, x.type(' '));
        }
        Sentences.of("Promise 2", "BAD; FULL.");
        Check.due("byte 151", Check.FULL, x.type(' '));
        Check.due("byte 151, 255", Check.FULL, x.type(255));
        for (int c : new int[] {Check.LEAST, -256, -1, 256, 256 + 'p', 65536, Check.MOST}) {
            Check.due("byte " + c + ", behind 150", Check.BAD, x.type(c));
            Check.due("byte " + c + ", first of all", Check.BAD, new RingArticles().type(c));
        }
        Check.due("150 stay", 150, x.count(6));
        x.clear();
        Check.due("there is room again", 1, x.type('p'));
    }

    private static void clear() {
        Sentences.of("Promise 3", "THE TEXT is empty: how many bytes it had.");
        RingArticles x = new RingArticles();
        Check.due("none", 0, x.clear());
        x.type('?');
        Check.due("one", 1, x.clear());
        Check.due("none again", 0, x.clear());
        Check.tell(x, "?".repeat(151));
        Check.due("150", 150, x.clear());
        Check.due("empty", 0, x.count(6));
        Check.tell(x, "p7;");
        Check.due("what was typed ahead is gone", 1, x.articles());
        Check.due("nothing is changed by it", 0, x.clear());
        Check.due("what was told stays", 7, x.piece(0));
    }

    private static void articles() {
        Sentences.of("Promise 4", "THE TEXT tells all, and is empty then: how many ITEMS.");
        RingArticles x = new RingArticles();
        Check.due("no ITEMS", 0, x.articles());
        Check.due("ITEMS of every sort", 17, Check.read(x, Check.CREW));
        Check.due("THE TEXT is empty", 0, x.count(6));
        Check.due("again, by the empty text", 0, x.articles());
        Check.same("nobody, nothing", Check.row(0, 0, 0, 10),
            Check.row(x.count(0), x.count(1), x.count(2), x.count(3)));
        Check.tell(x, "p1;");
        Check.tell(x, "p2;");
        Check.due("typed in parts", 2, x.articles());
        Sentences.of("Promise 4", "-10 less FAULT: nothing changes.");
        x = Check.crew(Check.CREW);
        x.chases(1);
        x.saw(3, 1);
        x.keep(0);
        x.mark(3, 0);
        Check.tell(x, "h9 9 9;l0 0");
        Check.due("FAULT is 10", -20, x.articles());
        Check.due("FAULT is 10 still", -20, x.articles());
        RingArticles other = Check.crew(Check.CREW);
        other.chases(1);
        other.saw(3, 1);
        other.keep(0);
        other.mark(3, 0);
        Check.tell(other, "h9 9 9;l0 0");
        Look.same("nothing changes", Look.whole(other), Look.whole(x));
        Check.due("what is UNDONE stays", 0, x.undo());
        Check.due("IMAGES stay", 70, x.back(0));
        x.type(' ');
        x.type('1');
        Check.due("FAULT is 10, though THE TEXT went on", -20, x.articles());
        x.clear();
        Check.tell(x, "p1");
        Check.due("FAULT is 2, THE TEXT's length", -12, x.articles());
        x.type(';');
        Check.due("THE TEXT goes on and has no FAULT", 1, x.articles());
        x.clear();
        x.type('?');
        Check.due("FAULT is 0", -10, x.articles());
        x = new RingArticles();
        Check.tell(x, " ".repeat(149) + "p");
        Check.due("FAULT is 150", -160, x.articles());
        x.clear();
        Check.tell(x, " ".repeat(149) + "?");
        Check.due("FAULT is 149", -159, x.articles());
    }

    private static void hand() {
        Sentences.of("Promise 5", "Of a HAND: 0 HALVES, 1 FIGHT, 2 EYES, 3 whom he LIKES (bits), 4 whether ABOARD, "
            + "5 COINS, 6 how often WOUNDED, 7 WOUNDS that were not paid, 8 what he hid, 9 PISTOLS.");
        RingArticles x = Check.crew("h1 2 9;h4 5 6;l0 1;s60 0;s60 0;s0 62;s60 0;w0;");
        x.chases(0);
        x.chases(2);
        x.shares();
        x.chases(1);
        x.chases(3);
        x.hides(0, 2);
        x.maroons(1);
        int[][] due = {{1, 2, 9, 2, 1, 20, 3, 2, 2, 4}, {4, 5, 6, 0, 0, 40, 0, 0, 0, 0}};
        for (int what = 0; what <= 9; what++) {
            Check.due("HAND 0, " + what, due[0][what], x.hand(0, what));
            Check.due("HAND 1, " + what, due[1][what], x.hand(1, what));
        }
        Sentences.of("Promise 5", "BAD.");
        for (int h : beyond(0, 1)) {
            Check.due("HAND " + h, Check.BAD, x.hand(h, 0));
            Check.due("HAND " + h + ", 9", Check.BAD, x.hand(h, 9));
        }
        for (int what : beyond(0, 9)) {
            Check.due("what " + what, Check.BAD, x.hand(0, what));
        }
        RingArticles six = Check.crew("h1 0 0;".repeat(6));
        Check.same("the sixth and the seventh", Check.row(1, Check.BAD), Check.row(six.hand(5, 0), six.hand(6, 0)));
    }

    private static void ship() {
        Sentences.of("Promise 6", "Of a SHIP: 0 GUNS, 1 GOLD, 2 how it is (0 not met, 1 TAKEN, 2 let go).");
        RingArticles x = Check.crew("h1 1 0;s1 7;s2 8;s0 9;s3 4;s0 5;");
        x.chases(0);
        x.chases(1);
        x.chases(4);
        int[][] due = {{1, 7, 1}, {2, 8, 2}, {0, 9, 0}, {3, 4, 0}, {0, 5, 1}};
        for (int s = 0; s < 5; s++) {
            Check.same("SHIP " + s, due[s], Check.row(x.ship(s, 0), x.ship(s, 1), x.ship(s, 2)));
        }
        Sentences.of("Promise 6", "BAD.");
        for (int s : beyond(0, 4)) {
            Check.due("SHIP " + s, Check.BAD, x.ship(s, 0));
            Check.due("SHIP " + s + ", 2", Check.BAD, x.ship(s, 2));
        }
        for (int what : beyond(0, 2)) {
            Check.due("what " + what, Check.BAD, x.ship(0, what));
        }
        Check.due("of one SHIP, the second", Check.BAD, Check.crew("s1 1;").ship(1, 0));
    }

    private static void piece() {
        Sentences.of("Promise 7", "WORTH of a PIECE.");
        RingArticles x = Check.crew("p1;p99;p5;p6;p7;");
        Check.same("PIECES", Check.row(1, 99, 5, 6, 7),
            Check.row(x.piece(0), x.piece(1), x.piece(2), x.piece(3), x.piece(4)));
        Sentences.of("Promise 7", "BAD.");
        for (int p : beyond(0, 4)) {
            Check.due("PIECE " + p, Check.BAD, x.piece(p));
        }
        Check.due("of one PIECE, the second", Check.BAD, Check.crew("p1;").piece(1));
    }

    private static void chases() {
        Sentences.of("Promise 8", "CHASED: GOLD that was TAKEN, -5: it was not.");
        RingArticles x = Check.crew("h1 4 0;s4 99;s5 98;s0 0;");
        Check.same("answers", Check.row(99, -5, 0), Check.row(x.chases(0), x.chases(1), x.chases(2)));
        Sentences.of("Promise 8", "BAD; STATE: it was met.");
        for (int s : beyond(0, 2)) {
            Check.due("SHIP " + s, Check.BAD, x.chases(s));
        }
        Check.same("met", Check.row(Check.STATE, Check.STATE, Check.STATE),
            Check.row(x.chases(0), x.chases(1), x.chases(2)));
        Check.same("nothing changes", Check.row(99, 3, 3), Check.row(x.now(0), x.count(5), x.hand(0, 9)));
    }

    private static void shares() {
        Sentences.of("Promise 9", "SHARED: coins for each of all PARTS.");
        RingArticles x = Check.crew("h1 0 0;h1 0 0;s0 2;s0 1;s0 5;");
        Check.due("an empty chest", 0, x.shares());
        Check.due("is SHARED, too", 1, x.count(5));
        x.chases(0);
        Check.due("2 by 3", 0, x.shares());
        x.chases(1);
        Check.due("3 by 3", 1, x.shares());
        x.chases(2);
        Check.due("5 by 3", 1, x.shares());
        Sentences.of("Promise 9", "STATE: nobody is ABOARD.");
        x.maroons(0);
        Check.due("one is ABOARD", 1, x.shares());
        x.maroons(1);
        int known = x.count(5);
        Check.due("nobody is", Check.STATE, x.shares());
        Check.due("nothing changes", known, x.count(5));
        Check.due("no HANDS", Check.STATE, Check.crew("s0 9;").shares());
    }

    private static void votes() {
        Sentences.of("Promise 10", "VOTE: who is CAPTAIN then.");
        RingArticles x = Check.crew("h1 0 0;h1 0 0;h1 0 0;l0 1;");
        Check.due("alone", 0, x.votes(2));
        Check.due("two of three", 1, x.votes(1));
        Check.due("alone again", 1, x.votes(0));
        Check.due("CAPTAIN", 1, x.now(1));
        Sentences.of("Promise 10", "BAD; STATE: he is not ABOARD, is CAPTAIN.");
        Check.due("is CAPTAIN", Check.STATE, x.votes(1));
        x.maroons(2);
        Check.due("not ABOARD", Check.STATE, x.votes(2));
        for (int h : beyond(0, 2)) {
            Check.due("HAND " + h, Check.BAD, x.votes(h));
        }
        Check.same("nothing changes", Check.row(1, 4), Check.row(x.now(1), x.count(5)));
        x.maroons(0);
        x.maroons(1);
        Check.due("nobody is CAPTAIN, he is not ABOARD", Check.STATE, x.votes(0));
        Check.due("NONE is no HAND", Check.BAD, x.votes(Check.NONE));
    }

    private static void maroons() {
        Sentences.of("Promise 11", "MAROONED: how many are ABOARD then.");
        RingArticles x = Check.crew("h1 0 0;".repeat(6));
        Check.same("one by one", Check.row(5, 4, 3, 2, 1, 0), Check.row(x.maroons(5), x.maroons(0), x.maroons(3),
            x.maroons(1), x.maroons(2), x.maroons(4)));
        Sentences.of("Promise 11", "BAD; STATE: he is not.");
        for (int h = 0; h < 6; h++) {
            Check.due("HAND " + h + " is not ABOARD", Check.STATE, x.maroons(h));
        }
        for (int h : beyond(0, 5)) {
            Check.due("HAND " + h, Check.BAD, x.maroons(h));
        }
        Check.due("nothing changes", 6, x.count(5));
        Check.due("of one HAND, the second", Check.BAD, Check.crew("h1 0 0;").maroons(1));
    }

    private static void hides() {
        Sentences.of("Promise 12", "HIDDEN: what he hid in all.");
        RingArticles x = Check.crew("h1 0 0;h1 0 0;s0 99;s0 60;");
        x.chases(0);
        x.chases(1);
        Check.same("answers", Check.row(1, 100, 3, 103), Check.row(x.hides(0, 1), x.hides(0, 99), x.hides(1, 3),
            x.hides(0, 3)));
        Sentences.of("Promise 12", "BAD; STATE: he is not ABOARD, THE CHEST has not so much.");
        Check.due("one coin too many", Check.STATE, x.hides(0, 54));
        Check.due("just so many", 156, x.hides(0, 53));
        Check.due("none is left", Check.STATE, x.hides(0, 1));
        x.finds(0);
        x.maroons(0);
        Check.due("not ABOARD", Check.STATE, x.hides(0, 1));
        for (int h : beyond(0, 1)) {
            Check.due("HAND " + h, Check.BAD, x.hides(h, 1));
        }
        for (int n : new int[] {Check.LEAST, -99, -1, 0, 100, 256, 257, Check.MOST}) {
            Check.due("n is " + n, Check.BAD, x.hides(1, n));
        }
        Check.same("nothing changes", Check.row(156, 3, 9), Check.row(x.now(0), x.hand(1, 8), x.count(5)));
    }

    private static void finds() {
        Sentences.of("Promise 13", "FOUND: how much.");
        RingArticles x = Check.crew("h1 0 0;h1 0 0;s0 99;");
        x.chases(0);
        x.hides(0, 1);
        x.hides(1, 90);
        x.hides(1, 8);
        Check.same("answers", Check.row(1, 98), Check.row(x.finds(0), x.finds(1)));
        Sentences.of("Promise 13", "BAD; STATE: he hid nothing.");
        Check.same("nothing any more", Check.row(Check.STATE, Check.STATE), Check.row(x.finds(0), x.finds(1)));
        for (int h : beyond(0, 1)) {
            Check.due("HAND " + h, Check.BAD, x.finds(h));
        }
        Check.same("nothing changes", Check.row(99, 1, 1, 6),
            Check.row(x.now(0), x.hand(0, 6), x.hand(1, 6), x.count(5)));
        x.shares();
        Check.due("what he has of a sharing is not hidden", Check.STATE, x.finds(0));
    }

    private static void undo() {
        Sentences.of("Promise 14", "UNDONE: how many more may be.");
        RingArticles x = Check.crew("h1 0 0;h1 0 0;s0 99;");
        x.chases(0);
        x.votes(1);
        x.shares();
        Check.same("three", Check.row(2, 1, 0), Check.row(x.undo(), x.undo(), x.undo()));
        Sentences.of("Promise 14", "STATE: none.");
        Check.due("none is left", Check.STATE, x.undo());
        Check.due("none is left, again", Check.STATE, x.undo());
        Check.due("as at first", 0, x.now(0));
        x.chases(0);
        for (int i = 0; i < 30; i++) {
            x.hides(0, 1);
        }
        for (int left = 9; left >= 0; left--) {
            Check.due("of 31, ten", left, x.undo());
        }
        Check.due("21 are lost", Check.STATE, x.undo());
        Check.due("and stay done", 20, x.hand(0, 8));
        x.hides(0, 5);
        Check.due("one more may be", 1, x.count(5));
        Check.due("it is UNDONE", 0, x.undo());
        Check.due("twenty again", 20, x.hand(0, 8));
        RingArticles refused = Check.crew("h1 0 0;s0 9;");
        refused.chases(1);
        refused.votes(0);
        refused.hides(0, 1);
        refused.finds(0);
        Check.due("what is refused can't be UNDONE", Check.STATE, refused.undo());
        refused.keep(0);
        refused.saw(1, 0);
        refused.back(0);
        Check.due("nor what is kept or told", Check.STATE, refused.undo());
    }

    private static void now() {
        Sentences.of("Promise 15", "0 THE CHEST, 1 CAPTAIN (NONE), 2 who is ABOARD (bits), 3 FORCE, 4 all PARTS "
            + "together, 5 SHIPS that were met (bits), 6 RIVALS (bits).");
        RingArticles x = Check.crew("h1 2 0;h3 4 0;h5 6 0;l0 2;l1 2;l2 1;s0 9;s60 1;s0 1;s0 1;s12 9;");
        x.chases(0);
        x.chases(4);
        x.votes(2);
        Check.same("three HANDS", Check.row(18, 2, 7, 12, 14, 17, 6), Rows.nows(x));
        x.chases(1);
        x.maroons(2);
        Check.same("two HANDS", Check.row(18, 0, 3, 5, 5, 19, 0), Rows.nows(x));
        x.maroons(0);
        x.maroons(1);
        Check.same("nobody", Check.row(18, Check.NONE, 0, 0, 0, 19, 0), Rows.nows(x));
        Sentences.of("Promise 15", "BAD.");
        for (int what : beyond(0, 6)) {
            Check.due("what " + what, Check.BAD, x.now(what));
        }
    }

    private static void keep() {
        Sentences.of("Promise 28", "An IMAGE is kept: THE CHEST.");
        RingArticles x = Check.crew("h1 0 0;s0 9;");
        Check.due("an empty chest", 0, x.keep(0));
        x.chases(0);
        Check.due("nine coins", 9, x.keep(1));
        Check.due("no step that may be UNDONE", 1, x.count(5));
        Sentences.of("Promise 28", "BAD.");
        for (int image : beyond(0, 1)) {
            Check.due("IMAGE " + image, Check.BAD, x.keep(image));
        }
        Check.same("both are as they were", Check.row(0, 9), Check.row(x.back(0), x.back(1)));
    }

    private static void back() {
        Sentences.of("Promise 29", "All of that becomes as an IMAGE has it: THE CHEST.");
        RingArticles x = Check.crew("h1 0 0;s0 9;");
        x.keep(1);
        x.chases(0);
        x.hides(0, 2);
        Check.due("an empty chest", 0, x.back(1));
        Check.same("all of it", Check.row(0, 0, 0, 0), Check.row(x.now(5), x.hand(0, 8), x.hand(0, 9), x.count(5)));
        Check.due("as often as one likes", 0, x.back(1));
        Sentences.of("Promise 29", "BAD; STATE: none was kept.");
        Check.due("IMAGE 0", Check.STATE, x.back(0));
        for (int image : beyond(0, 1)) {
            Check.due("IMAGE " + image, Check.BAD, x.back(image));
        }
        x.chases(0);
        x.keep(0);
        Check.due("IMAGE 0 was kept", 9, x.back(0));
        RingArticles other = Check.crew("h1 0 0;");
        other.keep(0);
        Check.due("IMAGE 1 was not kept", Check.STATE, other.back(1));
    }
}
