/** Terms, chapter 4 and what stands behind it: KINDS, IMAGES, what is read anew, what is refused. */
final class KindEdges {
    private static final String TERMS = "Terms";

    private KindEdges() {
    }

    static void all() {
        kinds();
        marks();
        images();
        imagesHoldAllOfNow();
        imagesOfManySteps();
        imagesOfEveryStep();
        readAnew();
        nothingOfAnOlderText();
        refused();
        refusedInOrder();
        no();
        headings();
    }

    private static void kinds() {
        Sentences.of(TERMS, "KINDS of HANDS are over one another: 0 HAND; 1 CARPENTER, 2 MUSICIAN, 5 COOK (each under "
            + "HAND); 3 BOY (under CARPENTER); 4 SICK (under MUSICIAN).");
        int[] due = {1, 11, 101, 1011, 10101, 100001};
        for (int kind = 0; kind <= 5; kind++) {
            RingArticles x = Check.crew("h1 1 1;");
            x.mark(kind, 0);
            Check.due("KIND " + kind + " and those above it", due[kind], x.trace());
        }
        RingArticles x = Check.crew("h1 1 1;");
        Check.due("no KIND 6", Check.NO, x.mark(6, 0));
        Check.due("no KIND -1", Check.NO, x.mark(-1, 0));
    }

    private static void marks() {
        Sentences.of(TERMS, "MARK of a HAND as if of a KIND (numbers in brackets come to THE TRACE as often as mark() "
            + "asks that body; \"up\" is what the KIND above does): HAND his HALVES (1). CARPENTER up, and FIGHT (10). "
            + "MUSICIAN up less how often he is WOUNDED (100). BOY up times 2 (1000). SICK up, and EYES (10000). COOK "
            + "up, and PISTOLS (100000).");
        RingArticles x = Check.crew("h1 2 3;h9 9 9;s60 0;s60 0;s60 0;");
        Check.same("at first", Check.row(1, 3, 1, 6, 4, 1), Rows.marks(x, 0));
        Check.same("most", Check.row(9, 18, 9, 36, 18, 9), Rows.marks(x, 1));
        Check.due("THE TRACE, twice all of it", 2 * 111226, x.trace());
        x.chases(0);
        x.chases(1);
        x.chases(2);
        Check.same("WOUNDED thrice: below 0", Check.row(1, 3, -2, 6, 1, 1), Rows.marks(x, 0));
        Check.same("three PISTOLS", Check.row(9, 18, 9, 36, 18, 12), Rows.marks(x, 1));
        x.undo();
        Check.due("WOUNDED twice: -1 is no refusal", -1, x.mark(2, 0));
        x.maroons(1);
        Check.due("MAROONED, too", 11, x.mark(5, 1));
        Check.due("THE TRACE is added up", 4 * 111226 + 101 + 100001, x.trace());
        x.mark(6, 0);
        x.mark(0, 2);
        Check.due("refused: THE TRACE stays", 4 * 111226 + 101 + 100001, x.trace());
        RingArticles paid = Check.crew("h5 0 0;s1 0;s0 9;w3;");
        paid.chases(0);
        paid.chases(1);
        paid.shares();
        Check.same("a WOUND that was paid", Check.row(5, 5, 4, 10, 4, 7), Rows.marks(paid, 0));
        paid.undo();
        paid.hides(0, 1);
        paid.finds(0);
        Check.same("his nose, too", Check.row(5, 5, 3, 10, 3, 7), Rows.marks(paid, 0));
    }

    private static void images() {
        Sentences.of(TERMS, "IMAGES 0, 1 keep NOW (who is ABOARD, CAPTAIN, THE CHEST, COINS, WOUNDS, what is hidden, "
            + "PISTOLS, SHIPS met, what may be UNDONE); nothing else.");
        RingArticles x = Check.crew("h1 0 0;h1 0 0;s0 9;");
        x.keep(0);
        x.chases(0);
        x.keep(1);
        x.saw(3, 0);
        x.mark(0, 0);
        x.type('p');
        Check.due("IMAGE 0", 0, x.back(0));
        Check.same("SAW, THE TRACE and THE TEXT stay", Check.row(1, 1, 1, 1),
            Check.row(x.count(4), x.keen(), (int) x.trace(), x.count(6)));
        Check.due("IMAGE 1", 9, x.back(1));
        Check.due("IMAGE 0 again", 0, x.back(0));
        Check.due("no IMAGE 2", Check.BAD, x.keep(2));
        Check.due("no IMAGE -1", Check.BAD, x.keep(-1));
        x.back(1);
        x.keep(0);
        x.undo();
        Check.due("kept over what was kept", 9, x.back(0));
        Check.due("the other one stays", 9, x.back(1));
    }

    /** A moment in which all that an IMAGE holds is unlike what it was at first. */
    private static RingArticles eventful() {
        RingArticles x = Check.crew(Check.CREW);
        x.chases(1);
        x.chases(3);
        x.shares();
        x.chases(0);
        x.hides(2, 4);
        x.finds(2);
        x.hides(2, 6);
        x.votes(1);
        x.maroons(0);
        return x;
    }

    private static void imagesHoldAllOfNow() {
        for (int image = 0; image <= 1; image++) {
            RingArticles x = eventful();
            x.keep(image);
            x.shares();
            x.chases(2);
            x.hides(1, 1);
            x.maroons(1);
            x.maroons(2);
            x.back(image);
            RingArticles twin = eventful();
            Look.same("all of NOW, IMAGE " + image, Look.at(twin), Look.at(x));
            for (int step = 0; step < 9; step++) {
                Check.due("may be UNDONE, IMAGE " + image, twin.undo(), x.undo());
            }
            Look.same("ahead of all, IMAGE " + image, Look.at(twin), Look.at(x));
            x.maroons(3);
            x.maroons(2);
            x.chases(0);
            x.back(image);
            Check.due("kept still", 9, x.count(5));
            for (int step = 0; step < 9; step++) {
                x.undo();
            }
            Look.same("ahead of all, and kept still", Look.at(twin), Look.at(x));
        }
    }

    private static void imagesOfManySteps() {
        RingArticles x = DeedEdges.behind(11);
        x.keep(0);
        x.undo();
        x.undo();
        x.undo();
        x.maroons(0);
        x.back(0);
        RingArticles twin = DeedEdges.behind(11);
        for (int left = 9; left >= 0; left--) {
            Check.due("ten of twelve may be UNDONE", left, x.undo());
            Check.due("THE CHEST, " + left + " left", undoneChest(twin), x.now(0));
        }
        Check.due("older ones are lost", Check.STATE, x.undo());
        Look.same("as ahead of them all", Look.at(twin), Look.at(x));
    }

    /** Other deeds are done where those stood that the IMAGE knows, so that each of them is the IMAGE's own. */
    private static void imagesOfEveryStep() {
        for (int image = 0; image <= 1; image++) {
            RingArticles x = Check.crew("h1 0 0;s0 99;");
            x.chases(0);
            for (int n = 1; n <= 10; n++) {
                x.hides(0, n);
            }
            x.keep(image);
            for (int left = 9; left >= 0; left--) {
                x.undo();
            }
            for (int i = 0; i < 12; i++) {
                x.hides(0, 2);
            }
            x.back(image);
            for (int n = 10; n >= 1; n--) {
                Check.due("may be UNDONE, IMAGE " + image, n - 1, x.undo());
                Check.due("what he hid ahead of " + n + ", IMAGE " + image, n * (n - 1) / 2, x.hand(0, 8));
            }
            Check.due("no more", Check.STATE, x.undo());
        }
    }

    private static int undoneChest(RingArticles x) {
        x.undo();
        return x.now(0);
    }

    private static void readAnew() {
        Sentences.of(TERMS, "(Read anew: as told, nothing SAW or to be UNDONE, IMAGES are gone.)");
        RingArticles x = eventful();
        x.saw(3, 0);
        x.keep(0);
        x.keep(1);
        Check.read(x, "h2 3 4;h1 1 1;s1 1;");
        RingArticles fresh = Check.crew("h2 3 4;h1 1 1;s1 1;");
        Look.same("as told", Look.whole(fresh), Look.whole(x));
        Check.due("nothing SAW", 0, x.forget());
        Check.due("nothing to be UNDONE", Check.STATE, x.undo());
        Check.due("IMAGE 0 is gone", Check.STATE, x.back(0));
        Check.due("IMAGE 1 is gone", Check.STATE, x.back(1));
        x.keep(1);
        x.saw(1, 0);
        Check.due("a text of nothing", 0, x.articles());
        Look.same("nobody, nothing", Look.whole(new RingArticles()), Look.whole(x));
        Check.due("IMAGE 1 is gone again", Check.STATE, x.back(1));
    }

    /** More is read twice, so that no room in the object is new to the text that tells less. */
    private static void nothingOfAnOlderText() {
        String less = "h2 3 4;h1 1 1;s4 5;p6;";
        RingArticles x = new RingArticles();
        for (int time = 0; time < 2; time++) {
            Check.read(x, "h9 9 9;h9 9 9;h9 9 9;l0 1;l1 2;" + "s9 9;".repeat(5) + "p9;".repeat(5) + "w1;");
            x.chases(3);
            x.maroons(2);
        }
        Check.read(x, less);
        RingArticles fresh = Check.crew(less);
        Look.same("as told", Look.whole(fresh), Look.whole(x));
        for (int i = -1; i <= 5; i++) {
            Check.same("answers for " + i, answers(fresh, i), answers(x, i));
        }
    }

    private static int[] answers(RingArticles x, int i) {
        return Check.row(x.raid(i), x.deal(i), x.odds(i, 3, 0), x.won(i), x.split(i), x.band(i), x.holds(i),
            x.mark(i, 0), x.mark(3, i), x.hand(i, 0), x.ship(i, 0), x.piece(i), x.keen());
    }

    private static RingArticles full() {
        RingArticles x = Check.crew(Check.CREW);
        x.keep(1);
        x.chases(1);
        x.maroons(3);
        x.keep(0);
        x.hides(1, 70);
        for (int i = 0; i < 6; i++) {
            x.saw(5, 2);
        }
        x.mark(5, 1);
        Check.tell(x, "p0");
        return x;
    }

    private static void refused() {
        Sentences.of(TERMS, "Refused, and nothing changes,");
        RingArticles x = full();
        int[] got = {x.type(-1), x.type(256), x.articles(), x.chases(-1), x.chases(4), x.chases(1), x.votes(-1),
            x.votes(4), x.votes(3), x.votes(0), x.maroons(-1), x.maroons(4), x.maroons(3), x.hides(-1, 1),
            x.hides(4, 1), x.hides(0, 0), x.hides(0, 100), x.hides(3, 1), x.hides(0, 1), x.finds(-1), x.finds(4),
            x.finds(0),
            x.saw(0, 0), x.saw(16, 4), x.saw(2, 0), x.saw(5, 2), x.mark(-1, 0), x.mark(6, 0), x.mark(0, -1),
            x.mark(0, 4), x.keep(-1), x.keep(2), x.back(-1), x.back(2)};
        int bad = Check.BAD;
        int state = Check.STATE;
        Check.same("answers", Check.row(bad, bad, -11, bad, bad, state, bad, bad, state, state, bad, bad, state, bad,
            bad, bad, bad, state, state, bad, bad, state, bad, bad, bad, Check.FULL, Check.NO, Check.NO, Check.NO,
            Check.NO, bad, bad, bad, bad), got);
        RingArticles other = full();
        Look.same("nothing changes", Look.whole(other), Look.whole(x));
        x.undo();
        other.undo();
        Look.same("nor what is UNDONE", Look.at(other), Look.at(x));
        for (int image = 0; image <= 1; image++) {
            Check.due("nor IMAGE " + image, other.back(image), x.back(image));
            Look.same("nor what it holds", Look.at(other), Look.at(x));
        }
        RingArticles empty = new RingArticles();
        Check.same("STATE, of a new object", Check.row(state, state, state, state),
            Check.row(empty.undo(), empty.shares(), empty.back(0), empty.back(1)));
        Look.same("nothing changes in it", Look.whole(new RingArticles()), Look.whole(empty));
    }

    private static void refusedInOrder() {
        Sentences.of(TERMS, "the first of these: BAD (a number is not as told, or there is no such thing), STATE (as "
            + "told), FULL.");
        RingArticles x = full();
        x.clear();
        Check.tell(x, " ".repeat(150));
        Check.due("FULL alone", Check.FULL, x.type(0));
        Check.due("BAD ahead of FULL: type", Check.BAD, x.type(-1));
        Check.due("FULL alone: saw", Check.FULL, x.saw(1, 0));
        Check.due("BAD ahead of FULL: saw, an empty set", Check.BAD, x.saw(0, 0));
        Check.due("BAD ahead of FULL: saw, not in it", Check.BAD, x.saw(1, 1));
        Check.due("STATE alone: not ABOARD", Check.STATE, x.hides(3, 1));
        Check.due("BAD ahead of STATE: not ABOARD", Check.BAD, x.hides(3, 0));
        Check.due("STATE alone: not so much", Check.STATE, x.hides(0, 99));
        Check.due("BAD ahead of STATE: not so much", Check.BAD, x.hides(0, 100));
        Check.due("BAD ahead of NONE: deal", Check.BAD, new RingArticles().deal(0));
        Check.due("BAD ahead of NONE: raid", Check.BAD, new RingArticles().raid(5));
        Check.due("BAD ahead of NONE: split", Check.BAD, new RingArticles().split(2));
        Check.due("BAD ahead of STATE: back", Check.BAD, new RingArticles().back(2));
    }

    private static void no() {
        Sentences.of(TERMS, "The constants: `NO = -1000000`: What none is, where a number may be below 0.");
        Check.due("NO", -1000000, RingArticles.NO);
        RingArticles x = Check.crew("h1 0 0;s1 0;s1 0;");
        x.chases(0);
        x.chases(1);
        Check.due("a number below 0", -1, x.mark(2, 0));
        Check.due("none", -1000000, x.mark(2, 1));
    }

    /** What the interface says ahead of calls is no more than where they stand. */
    private static void headings() {
        String[] words = {
            "Ahead of the calls `type`, `clear`, `articles`, `hand`, `ship`, `piece` the interface says: "
                + "---- the articles.",
            "Ahead of the calls `chases`, `shares`, `votes`, `maroons`, `hides`, `finds`, `undo`, `now` the interface "
                + "says: ---- what is done.",
            "Ahead of the calls `due`, `holds`, `deal` the interface says: ---- shares.",
            "Ahead of the calls `raid`, `odds` the interface says: ---- chases, odds.",
            "Ahead of the calls `won`, `split`, `band` the interface says: ---- votes, bands.",
            "Ahead of the calls `saw`, `forget`, `keen` the interface says: ---- who saw it.",
            "Ahead of the calls `mark`, `keep`, `back`, `count`, `trace` the interface says: ---- kinds, images.",
        };
        for (String heading : words) {
            Sentences.noEdge(TERMS, heading);
        }
    }
}
