/** Terms, chapter 2: what is at first, what each deed does, and what is UNDONE. */
final class DeedEdges {
    private static final String TERMS = "Terms";

    private DeedEdges() {
    }

    static void all() {
        atFirst();
        parts();
        force();
        chasedOnce();
        taken();
        letGo();
        pistols();
        woundsArePaid();
        partsArePaid();
        coinsAreAddedUp();
        voted();
        marooned();
        hidden();
        found();
        undone();
    }

    private static void atFirst() {
        Sentences.of(TERMS, "All are ABOARD at first, HAND 0 is CAPTAIN (NONE, if there is nobody), THE CHEST is "
            + "empty, nobody is WOUNDED, no SHIP was met.");
        for (int hands = 0; hands <= 6; hands++) {
            RingArticles x = Check.crew(Check.CREW);
            x.chases(1);
            x.shares();
            x.chases(3);
            x.chases(0);
            x.votes(1);
            x.maroons(0);
            x.hides(1, 5);
            Check.read(x, "h1 1 1;".repeat(hands) + "s0 5;s9 1;");
            Check.due("ABOARD of " + hands, (1 << hands) - 1, x.now(2));
            Check.due("CAPTAIN of " + hands, hands == 0 ? Check.NONE : 0, x.now(1));
            Check.due("THE CHEST", 0, x.now(0));
            Check.same("SHIPS met", Check.row(0, 0, 0), Check.row(x.now(5), x.ship(0, 2), x.ship(1, 2)));
            for (int h = 0; h < hands; h++) {
                Check.same("HAND " + h, Check.row(1, 0, 0, 0, 0, 0), Check.row(x.hand(h, 4), x.hand(h, 5),
                    x.hand(h, 6), x.hand(h, 7), x.hand(h, 8), x.hand(h, 9)));
            }
            x.chases(1);
            Check.due("a SHIP let go, where one was TAKEN", 2, x.ship(1, 2));
        }
    }

    private static void parts() {
        Sentences.of(TERMS, "PART of a HAND ABOARD: his HALVES, twice those of the CAPTAIN.");
        RingArticles x = Check.crew("h9 0 0;h4 0 0;h1 0 0;l0 1;l2 1;");
        Check.due("HAND 0 has twice", 18 + 4 + 1, x.now(4));
        x.votes(1);
        Check.due("HAND 1 has twice", 9 + 8 + 1, x.now(4));
        x.maroons(0);
        Check.due("who is MAROONED has none", 8 + 1, x.now(4));
        x.maroons(1);
        Check.due("the last is CAPTAIN", 2, x.now(4));
        x.maroons(2);
        Check.due("nobody", 0, x.now(4));
    }

    /** He hides a coin and it is found, so often: he is WOUNDED so often, and nothing else is changed. */
    private static void hurt(RingArticles x, int h, int times) {
        for (int i = 0; i < times; i++) {
            x.hides(h, 1);
            x.finds(h);
        }
    }

    private static void force() {
        Sentences.of(TERMS, "FORCE: FIGHT of all ABOARD less how often each is WOUNDED (0 at least, each), together.");
        RingArticles x = Check.crew("h1 2 0;h1 9 0;s0 9;");
        x.chases(0);
        Check.due("nobody is WOUNDED", 11, x.now(3));
        hurt(x, 0, 1);
        Check.due("once", 10, x.now(3));
        hurt(x, 0, 1);
        Check.due("as often as he has FIGHT", 9, x.now(3));
        hurt(x, 0, 2);
        Check.due("more often", 9, x.now(3));
        hurt(x, 1, 1);
        Check.due("the other one", 8, x.now(3));
        x.maroons(1);
        Check.due("0 at least", 0, x.now(3));
        x.maroons(0);
        Check.due("nobody ABOARD", 0, x.now(3));
    }

    private static void chasedOnce() {
        Sentences.of(TERMS, "CHASED: a SHIP that was not met.");
        RingArticles x = Check.crew("h1 5 0;s5 1;s6 1;");
        Check.due("TAKEN", 1, x.chases(0));
        Check.due("once TAKEN", Check.STATE, x.chases(0));
        Check.due("let go", -5, x.chases(1));
        Check.due("once let go", Check.STATE, x.chases(1));
        Check.due("THE CHEST", 1, x.now(0));
        Check.due("WOUNDED once", 1, x.hand(0, 6));
        x.undo();
        Check.due("not met any more", -5, x.chases(1));
    }

    private static void taken() {
        Sentences.of(TERMS, "If FORCE is GUNS or more, it is TAKEN: its GOLD comes to THE CHEST;");
        RingArticles x = Check.crew("h1 3 0;h1 4 0;s7 99;s8 50;s6 0;s0 2;");
        Check.due("FORCE is GUNS", 99, x.chases(0));
        Check.due("FORCE is one less", -5, x.chases(1));
        Check.due("THE CHEST", 99, x.now(0));
        Check.due("FORCE is GUNS, no GOLD", 0, x.chases(2));
        Check.due("FORCE is more", 2, x.chases(3));
        Check.due("GOLD comes to what is there", 101, x.now(0));
        Check.same("how they are", Check.row(1, 2, 1, 1),
            Check.row(x.ship(0, 2), x.ship(1, 2), x.ship(2, 2), x.ship(3, 2)));
        Check.same("WOUNDED by the one let go", Check.row(1, 0), Check.hands(x, 6));
        RingArticles fewer = Check.crew("h1 3 0;h1 4 0;s4 9;s3 8;");
        fewer.maroons(1);
        Check.same("who is MAROONED does not fight", Check.row(8, -5), Check.row(fewer.chases(1), fewer.chases(0)));
    }

    private static void letGo() {
        Sentences.of(TERMS, "else he of those ABOARD who has least FIGHT less how often he is WOUNDED (0 at least), of "
            + "several the lowest, is WOUNDED once more, not paid yet (nobody ABOARD: nobody).");
        RingArticles x = Check.crew("h1 3 0;h1 1 0;h1 1 0;" + "s60 0;".repeat(5));
        x.chases(0);
        Check.same("of two the lowest", Check.row(0, 1, 0), Check.hands(x, 6));
        x.chases(1);
        Check.same("least, as he is WOUNDED", Check.row(0, 2, 0), Check.hands(x, 6));
        Check.same("not paid yet", Check.row(0, 2, 0), Check.hands(x, 7));
        x.maroons(1);
        x.chases(2);
        Check.same("ABOARD", Check.row(0, 2, 1), Check.hands(x, 6));
        x.maroons(2);
        x.chases(3);
        Check.same("the last one", Check.row(1, 2, 1), Check.hands(x, 7));
        x.maroons(0);
        Check.due("nobody ABOARD", -5, x.chases(4));
        Check.same("nobody", Check.row(1, 2, 1), Check.hands(x, 6));
        RingArticles low = Check.crew("h1 0 0;h1 1 0;s0 9;s60 0;");
        low.chases(0);
        hurt(low, 1, 3);
        low.chases(1);
        Check.same("0 at least: two have 0", Check.row(1, 3), Check.hands(low, 6));
        Check.same("0 at least: not paid", Check.row(1, 0), Check.hands(low, 7));
        RingArticles strong = Check.crew("h1 9 0;h1 8 0;s60 0;");
        strong.chases(0);
        Check.same("the last has least", Check.row(0, 1), Check.hands(strong, 6));
    }

    private static void pistols() {
        Sentences.of(TERMS, "It is met then; either way a PISTOL goes to him of those ABOARD who has most EYES, of "
            + "several the lowest.");
        RingArticles x = Check.crew("h1 1 4;h1 1 9;h1 1 9;s0 1;s60 1;s0 0;s60 0;s0 0;");
        x.chases(0);
        Check.same("TAKEN", Check.row(0, 1, 0), Check.hands(x, 9));
        x.chases(1);
        Check.same("let go", Check.row(0, 2, 0), Check.hands(x, 9));
        Check.due("met", 3, x.now(5));
        x.maroons(1);
        x.chases(2);
        Check.same("ABOARD", Check.row(0, 2, 1), Check.hands(x, 9));
        x.maroons(2);
        x.chases(3);
        x.maroons(0);
        x.chases(4);
        Check.same("nobody ABOARD", Check.row(1, 2, 1), Check.hands(x, 9));
        Check.due("all are met", 31, x.now(5));
        RingArticles blind = Check.crew("h1 0 0;h1 0 0;s0 0;");
        blind.chases(0);
        Check.same("EYES are 0", Check.row(1, 0), Check.hands(blind, 9));
    }

    /** HAND 0, MAROONED, has one WOUND that is not paid, HAND 1 two of them, HAND 2 none; PARTS are 0, 2, 1. */
    private static RingArticles wounded(int gold) {
        RingArticles x = Check.crew("h1 1 0;h1 2 0;h1 3 0;s60 0;s60 0;s60 0;s0 " + gold + ";s0 19;w20;");
        x.chases(0);
        x.maroons(0);
        x.chases(1);
        x.chases(2);
        x.chases(3);
        Check.same("WOUNDS not paid", Check.row(1, 2, 0), Check.hands(x, 7));
        return x;
    }

    private static void shared(int gold, int each, int[] coins, int[] unpaid, int rest) {
        RingArticles x = wounded(gold);
        Check.due("coins for each of " + gold, each, x.shares());
        Check.same("COINS of " + gold, coins, Check.hands(x, 5));
        Check.same("not paid of " + gold, unpaid, Check.hands(x, 7));
        Check.due("the rest of " + gold, rest, x.now(0));
        Check.same("WOUNDED still", Check.row(1, 2, 0), Check.hands(x, 6));
    }

    private static void woundsArePaid() {
        Sentences.of(TERMS, "SHARED: ahead of all each WOUND that was not paid is paid, HAND by HAND, those MAROONED "
            + "too, until THE CHEST has fewer coins than a WOUND is worth;");
        shared(0, 0, Check.row(0, 0, 0), Check.row(1, 2, 0), 0);
        shared(19, 6, Check.row(0, 12, 6), Check.row(1, 2, 0), 1);
        shared(20, 0, Check.row(20, 0, 0), Check.row(0, 2, 0), 0);
        shared(39, 6, Check.row(20, 12, 6), Check.row(0, 2, 0), 1);
        shared(40, 0, Check.row(20, 20, 0), Check.row(0, 1, 0), 0);
        shared(59, 6, Check.row(20, 32, 6), Check.row(0, 1, 0), 1);
        shared(60, 0, Check.row(20, 40, 0), Check.row(0, 0, 0), 0);
        shared(82, 7, Check.row(20, 54, 7), Check.row(0, 0, 0), 1);
        RingArticles x = wounded(59);
        x.shares();
        x.chases(4);
        Check.due("of 1 and 19 coins one more is paid", 0, x.shares());
        Check.same("COINS", Check.row(20, 52, 6), Check.hands(x, 5));
        Check.same("all are paid", Check.row(0, 0, 0), Check.hands(x, 7));
        handByHand();
        RingArticles free = Check.crew("h1 0 0;s1 0;s1 0;w0;");
        free.chases(0);
        free.chases(1);
        Check.due("a WOUND is worth 0", 0, free.shares());
        Check.same("paid for 0 coins", Check.row(0, 2, 0),
            Check.row(free.hand(0, 5), free.hand(0, 6), free.hand(0, 7)));
        RingArticles blind = Check.crew("h1 1 0;h1 2 9;s60 0;s60 0;w0;");
        blind.chases(0);
        blind.chases(1);
        blind.shares();
        Check.same("a WOUND is worth 0, and he has no PISTOL", Check.row(0, 0), Check.hands(blind, 7));
        RingArticles dear = Check.crew("h1 0 0;s1 0;s0 50;w50;");
        dear.chases(0);
        dear.chases(1);
        dear.shares();
        Check.same("a WOUND is worth 50", Check.row(50, 0, 0),
            Check.row(dear.hand(0, 5), dear.hand(0, 7), dear.now(0)));
    }

    private static void handByHand() {
        RingArticles x = Check.crew("h1 0 0;h1 1 0;h1 9 0;s60 0;s60 0;s60 0;s0 25;");
        x.chases(0);
        x.chases(1);
        x.maroons(0);
        x.chases(2);
        x.chases(3);
        Check.due("what two wounds leave", 1, x.shares());
        Check.same("both wounds of HAND 0 ahead of that of HAND 1", Check.row(20, 2, 1), Check.hands(x, 5));
        Check.same("HAND 1 is not paid", Check.row(0, 1, 0), Check.hands(x, 7));
        RingArticles cheap = Check.crew("h1 0 0;s1 0;s1 0;s0 1;w1;");
        cheap.chases(0);
        cheap.chases(1);
        cheap.shares();
        Check.same("a WOUND is worth 1, none is there", Check.row(0, 2, 0),
            Check.row(cheap.hand(0, 5), cheap.hand(0, 7), cheap.now(0)));
        cheap.chases(2);
        cheap.shares();
        Check.same("a WOUND is worth 1, one is there", Check.row(1, 1, 0),
            Check.row(cheap.hand(0, 5), cheap.hand(0, 7), cheap.now(0)));
    }

    private static void partsArePaid() {
        Sentences.of(TERMS, "then each one ABOARD has as many coins as his PART for each that THE CHEST has by all "
            + "PARTS together (cut); the rest stays in THE CHEST.");
        int[][] rows = {{0, 0, 0, 0, 0}, {4, 0, 0, 0, 4}, {5, 1, 2, 3, 0}, {9, 1, 2, 3, 4}, {10, 2, 4, 6, 0},
            {99, 19, 38, 57, 4}};
        for (int[] row : rows) {
            RingArticles x = Check.crew("h1 0 0;h3 0 0;s0 " + row[0] + ";");
            x.chases(0);
            Check.due("coins for each of " + row[0], row[1], x.shares());
            Check.same("COINS of " + row[0], Check.row(row[2], row[3]), Check.hands(x, 5));
            Check.due("the rest of " + row[0], row[4], x.now(0));
        }
        RingArticles x = Check.crew("h1 0 0;h3 0 0;s0 99;");
        x.chases(0);
        x.maroons(1);
        Check.due("by those ABOARD", 49, x.shares());
        Check.same("who is MAROONED has none", Check.row(98, 0), Check.hands(x, 5));
        Check.due("the rest", 1, x.now(0));
    }

    private static void coinsAreAddedUp() {
        Sentences.of(TERMS, "(COINS of each are added up.)");
        RingArticles x = Check.crew("h1 0 0;h1 0 0;s0 10;s0 7;");
        x.chases(0);
        x.shares();
        Check.same("once", Check.row(6, 3), Check.hands(x, 5));
        x.chases(1);
        x.shares();
        Check.same("twice", Check.row(10, 5), Check.hands(x, 5));
        x.shares();
        Check.same("of too few", Check.row(10, 5), Check.hands(x, 5));
    }

    private static void voted() {
        Sentences.of(TERMS, "VOTE for a HAND ABOARD: he is CAPTAIN, if those ABOARD who LIKE him, and he, are more "
            + "than half of all ABOARD.");
        for (int hands = 2; hands <= 6; hands++) {
            StringBuilder text = new StringBuilder("h1 0 0;".repeat(hands));
            for (int likers = 0; likers < hands; likers++) {
                RingArticles x = Check.crew(text.toString());
                boolean more = 2 * (likers + 1) > hands;
                Check.due(likers + " of " + hands + " LIKE him", more ? hands - 1 : 0, x.votes(hands - 1));
                text.append('l').append(likers).append(' ').append(hands - 1).append(';');
                if (likers == hands - 2) {
                    break;
                }
            }
        }
        RingArticles gone = Check.crew("h1 0 0;h1 0 0;h1 0 0;l2 1;");
        gone.maroons(2);
        Check.due("who is MAROONED has no voice", 0, gone.votes(1));
        RingArticles fewer = Check.crew("h1 0 0;h1 0 0;h1 0 0;h1 0 0;l0 3;");
        Check.due("half of four", 0, fewer.votes(3));
        fewer.maroons(1);
        Check.due("the same two, of three", 3, fewer.votes(3));
        RingArticles liker = Check.crew("h1 0 0;h1 0 0;l1 0;");
        Check.due("whom he LIKES is nothing to him", 0, liker.votes(1));
    }

    private static void marooned() {
        Sentences.of(TERMS, "MAROONED: a HAND is not ABOARD any more (the CAPTAIN: the lowest ABOARD is CAPTAIN then, "
            + "NONE if nobody is).");
        RingArticles x = Check.crew("h1 0 0;h1 0 0;h1 0 0;h1 0 0;l0 2;l1 2;");
        x.votes(2);
        x.maroons(3);
        Check.same("not the CAPTAIN", Check.row(7, 2), Check.row(x.now(2), x.now(1)));
        x.maroons(2);
        Check.same("the CAPTAIN", Check.row(3, 0), Check.row(x.now(2), x.now(1)));
        x.maroons(0);
        Check.same("the lowest", Check.row(2, 1), Check.row(x.now(2), x.now(1)));
        x.maroons(1);
        Check.same("nobody", Check.row(0, Check.NONE), Check.row(x.now(2), x.now(1)));
        RingArticles six = Check.crew("h1 0 0;".repeat(6));
        for (int h = 0; h < 5; h++) {
            six.maroons(h);
        }
        Check.same("the sixth alone", Check.row(32, 5), Check.row(six.now(2), six.now(1)));
    }

    private static void hidden() {
        Sentences.of(TERMS, "HIDDEN: a HAND ABOARD takes n (1 .. 99) coins out of THE CHEST for himself.");
        RingArticles x = Check.crew("h1 0 0;h1 0 0;s0 99;s0 2;");
        x.chases(0);
        x.chases(1);
        Check.due("0", Check.BAD, x.hides(1, 0));
        Check.due("100, though there are as many", Check.BAD, x.hides(1, 100));
        Check.due("99", 99, x.hides(1, 99));
        Check.due("1", 1, x.hides(0, 1));
        Check.due("one is left", 1, x.now(0));
        Check.due("all of it", 100, x.hides(1, 1));
        Check.due("THE CHEST is empty", 0, x.now(0));
        Check.same("for himself", Check.row(1, 100), Check.hands(x, 8));
        Check.same("no COINS of a sharing", Check.row(0, 0), Check.hands(x, 5));
    }

    private static void found() {
        Sentences.of(TERMS, "FOUND: all that a HAND hid comes back to THE CHEST; he is WOUNDED once more (his nose), "
            + "paid for already.");
        RingArticles x = Check.crew("h1 0 0;h1 0 0;s0 99;");
        x.chases(0);
        x.hides(0, 5);
        x.hides(0, 6);
        x.hides(1, 80);
        Check.due("all of it", 11, x.finds(0));
        Check.due("THE CHEST", 19, x.now(0));
        Check.same("hidden still", Check.row(0, 80), Check.hands(x, 8));
        Check.same("WOUNDED once", Check.row(1, 0), Check.hands(x, 6));
        Check.same("nothing is to be paid", Check.row(0, 0), Check.hands(x, 7));
        x.hides(0, 1);
        x.finds(0);
        Check.same("WOUNDED once more", Check.row(2, 0), Check.hands(x, 6));
        x.maroons(1);
        Check.due("what one MAROONED hid", 80, x.finds(1));
        Check.due("THE CHEST has all of it", 99, x.now(0));
    }

    private static void undone() {
        Sentences.of(TERMS, "UNDONE: the latest of these (10 are known, older ones are lost): all is as ahead of it.");
        RingArticles x = behind(11);
        Check.due("steps known of 12", 10, x.count(5));
        for (int step = 10; step >= 1; step--) {
            Check.due("how many more", step - 1, x.undo());
            Look.same("as ahead of step " + step, lookOf(behind(step)), lookOf(x));
        }
        Check.due("older ones are lost", Check.STATE, x.undo());
        Look.same("and stay done", lookOf(behind(1)), lookOf(x));
        RingArticles again = Check.crew("h1 4 0;h1 4 0;s8 9;");
        again.chases(0);
        again.undo();
        Check.due("not met", 0, again.ship(0, 2));
        again.maroons(0);
        Check.due("what was TAKEN can't be now", -5, again.chases(0));
        Check.due("it is let go", 2, again.ship(0, 2));
        Check.due("steps known of 2", 2, behind(1).count(5));
        Check.due("steps known of 10", 10, behind(9).count(5));
        Check.due("steps known of 11", 10, behind(10).count(5));
    }

    private static String lookOf(RingArticles x) {
        return Look.at(x).replaceFirst("undo \\d+", "");
    }

    /** A crew that has CHASED once and done so many deeds more, of every sort. */
    static RingArticles behind(int steps) {
        RingArticles x = Check.crew("h1 5 0;h1 0 9;l0 1;s0 99;s9 0;s0 1;");
        Check.due("CHASED", 99, x.chases(0));
        for (int step = 0; step < steps; step++) {
            doStep(x, step);
        }
        return x;
    }

    private static void doStep(RingArticles x, int step) {
        int[] answers = {4, 1, -5, 9, 9, 1, 2, 7, 26, 1, 1};
        int got;
        switch (step) {
            case 0: got = x.hides(0, 4); break;
            case 1: got = x.votes(1); break;
            case 2: got = x.chases(1); break;
            case 3: got = x.hides(1, 9); break;
            case 4: got = x.finds(1); break;
            case 5: got = x.votes(0); break;
            case 6: got = x.hides(1, 2); break;
            case 7: got = x.hides(0, 3); break;
            case 8: got = x.shares(); break;
            case 9: got = x.maroons(1); break;
            default: got = x.chases(2);
        }
        Check.due("step " + step, answers[step], got);
    }
}
