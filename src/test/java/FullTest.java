/** Promises 4 to 19, 28 and 29 with as many HANDS, SHIPS and PIECES as there may be: the last of each counts, too. */
public final class FullTest {
    private static final String FIVE = "h1 9 0;".repeat(5);

    /** HAND 5 has least FIGHT, most EYES and three who LIKE him; FORCE is 48, PARTS are 2, 1, 1, 1, 1 and 2. */
    private static final String FULL = FIVE + "h2 3 9;l5 0;l0 5;l1 5;l2 5;s60 0;s0 99;s0 40;s48 1;s47 2;";

    public static void main(String[] args) {
        sixthIsChasedWith();
        sixthIsShared();
        sixthIsUndone();
        sixthIsVotedFor();
        sixthIsKept();
        sixthIsReadAnew();
        sixthIsLeftBehind();
        sixthIsDealt();
        sixthIsWeakest();
        fifthShip();
        Check.end();
    }

    private static RingArticles wounded() {
        RingArticles x = Check.crew(FULL);
        x.chases(0);
        x.chases(1);
        return x;
    }

    private static void sixthIsChasedWith() {
        RingArticles x = Check.crew(FULL);
        Check.same("15: NOW of six", Check.row(0, 0, 63, 48, 8, 0, 32), Rows.nows(x));
        Check.due("8: FORCE is less", -5, x.chases(0));
        Check.same("8: the sixth is weakest", Check.row(0, 0, 0, 0, 0, 1), Check.hands(x, 6));
        Check.same("8: not paid yet", Check.row(0, 0, 0, 0, 0, 1), Check.hands(x, 7));
        Check.due("8: TAKEN", 99, x.chases(1));
        Check.same("8: the sixth has most EYES", Check.row(0, 0, 0, 0, 0, 2), Check.hands(x, 9));
        Check.due("15: FORCE", 47, x.now(3));
    }

    private static void sixthIsShared() {
        RingArticles x = wounded();
        // 99 coins less a WOUND of 10 are 11 for each of 8 PARTS, and 1.
        int[] coins = Check.row(22, 11, 11, 11, 11, 32);
        Check.same("16: DUE", coins, Rows.dues(x));
        Check.same("17: HOLDS by 22, 23, 33", Check.row(33, 32, 0), Check.row(x.holds(22), x.holds(23), x.holds(33)));
        Check.due("9: coins for each", 11, x.shares());
        Check.same("9: COINS", coins, Check.hands(x, 5));
        Check.same("9: paid", Check.row(0, 0, 0, 0, 0, 0), Check.hands(x, 7));
        Check.due("9: the rest", 1, x.now(0));
    }

    private static void sixthIsUndone() {
        RingArticles x = wounded();
        String before = Look.at(x);
        x.shares();
        Check.due("14: the sharing", 2, x.undo());
        Look.same("14: all is as ahead of it", before, Look.at(x));
        Check.due("12: he hides", 40, x.hides(5, 40));
        String hidden = Look.at(x);
        Check.due("13: it is FOUND", 40, x.finds(5));
        Check.same("13: WOUNDED once more, paid for already", Check.row(2, 1), Check.row(x.hand(5, 6), x.hand(5, 7)));
        x.undo();
        Look.same("14: not FOUND", hidden, Look.at(x));
        x.undo();
        Look.same("14: not hidden", before, Look.at(x));
        x.undo();
        x.undo();
        Check.same("14: neither WOUNDED nor with a PISTOL", Check.row(0, 0, 0),
            Check.row(x.hand(5, 6), x.hand(5, 7), x.hand(5, 9)));
    }

    private static void sixthIsVotedFor() {
        RingArticles x = wounded();
        Check.due("10: four of six", 5, x.votes(5));
        Check.due("15: PARTS", 9, x.now(4));
        // 89 coins are 9 for each of 9 PARTS, and 8.
        Check.due("9: coins for each", 9, x.shares());
        Check.same("9: COINS, twice those of the CAPTAIN", Check.row(9, 9, 9, 9, 9, 46), Check.hands(x, 5));
        Check.due("11: the CAPTAIN", 5, x.maroons(5));
        Check.due("11: the lowest is CAPTAIN then", 0, x.now(1));
        Check.due("11: ABOARD", 31, x.now(2));
    }

    private static void sixthIsKept() {
        RingArticles x = wounded();
        x.hides(5, 7);
        String kept = Look.at(x);
        Check.due("28: THE CHEST", 92, x.keep(1));
        x.finds(5);
        x.votes(5);
        x.shares();
        x.chases(2);
        x.maroons(5);
        Check.due("29: THE CHEST", 92, x.back(1));
        Look.same("29: as it was kept", kept, Look.at(x));
    }

    private static void sixthIsReadAnew() {
        RingArticles x = wounded();
        x.hides(5, 7);
        x.shares();
        Check.same("5: all of it", Check.row(2, 3, 9, 1, 1, 30, 1, 0, 7, 2), Check.row(x.hand(5, 0), x.hand(5, 1),
            x.hand(5, 2), x.hand(5, 3), x.hand(5, 4), x.hand(5, 5), x.hand(5, 6), x.hand(5, 7), x.hand(5, 8),
            x.hand(5, 9)));
        // Twice, so that the second of these texts comes to where the first one of all stood.
        for (int time = 0; time < 2; time++) {
            Check.due("4: six ITEMS", 6, Check.read(x, "h1 0 0;".repeat(6)));
            for (int what = 5; what <= 9; what++) {
                Check.same("4: as at first, " + what, Check.row(0, 0, 0, 0, 0, 0), Check.hands(x, what));
            }
            Check.same("4: nobody LIKES anybody", Check.row(0, 0, 0, 0, 0, 0), Check.hands(x, 3));
        }
    }

    private static void sixthIsLeftBehind() {
        RingArticles x = wounded();
        Check.due("16: DUE", 32, x.due(5));
        for (int h = 0; h < 6; h++) {
            x.maroons(h);
        }
        Check.same("16: nobody is ABOARD", Check.row(0, 0, 0, 0, 0, 0), Rows.dues(x));
        Check.due("17: nobody is ABOARD", 0, x.holds(0));
        RingArticles alone = wounded();
        for (int h = 0; h < 5; h++) {
            alone.maroons(h);
        }
        // 89 coins are 22 for each of 4 PARTS, and 1.
        Check.same("16: the sixth alone", Check.row(0, 0, 0, 0, 0, 98), Rows.dues(alone));
        RingArticles gone = wounded();
        gone.maroons(5);
        // 89 coins are 14 for each of 6 PARTS, and 5.
        Check.same("16: the sixth MAROONED", Check.row(28, 14, 14, 14, 14, 10), Rows.dues(gone));
        Check.due("9: coins for each", 14, gone.shares());
        Check.same("9: COINS of one MAROONED", Check.row(10, 0), Check.row(gone.hand(5, 5), gone.hand(5, 7)));
    }

    private static void sixthIsDealt() {
        // PARTS are 2, 1, 1, 1, 1 and 9 of 15, WORTH is 9: HAND 5 has 135 where 81 are due to him.
        Check.same("18: far above his due", Check.row(54, 5), Rows.deals(Check.crew(FIVE + "h9 0 0;p9;")));
        RingArticles x = Check.crew(FIVE + "h5 0 0;p1;p1;p1;p2;p5;");
        x.maroons(4);
        Check.same("18: five PIECES, each as due", Check.row(0, 1, 2, 3, 0, 5), Rows.deals(x));
    }

    private static void sixthIsWeakest() {
        RingArticles x = Check.crew(FIVE + "h1 1 0;s60 0;s60 0;s60 0;s45 5;s46 7;");
        Check.same("19: ahead of all chases that fail", Check.row(12, 3, 4, 0, 1, 2), Rows.raids(x));
        Check.same("20: all six are needed", Check.row(531441, 1000000), Rows.odds(x, 4, 1));
        Check.same("20: the sixth is not", Check.row(59049, 100000), Rows.odds(x, 3, 1));
        x.chases(0);
        Check.same("19: FORCE falls no deeper", Check.row(5, 1, 2, 3, 4, Check.NONE), Rows.raids(x));
    }

    private static void fifthShip() {
        RingArticles x = Check.crew(FULL);
        Check.same("19: one chase that fails, where it costs nothing", Check.row(142, 1, 2, 3, 0, 4), Rows.raids(x));
        int[] gold = {-5, 99, 40, 1, 2};
        for (int s : new int[] {1, 2, 3, 0, 4}) {
            Check.due("8: SHIP " + s, gold[s], x.chases(s));
        }
        Check.due("15: all were met", 31, x.now(5));
        Check.same("6: how the last two are", Check.row(2, 1), Check.row(x.ship(0, 2), x.ship(4, 2)));
        Check.due("15: THE CHEST", 142, x.now(0));
    }
}
