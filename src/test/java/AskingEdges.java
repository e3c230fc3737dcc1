/** Terms, chapter 3: what is asked, changing nothing. */
final class AskingEdges {
    private static final String TERMS = "Terms";

    private AskingEdges() {
    }

    static void all() {
        nothingIsChanged();
        due();
        raid();
        raidByWounds();
        deal();
        won();
        rivals();
        split();
        band();
        saw();
        keen();
        odds();
        holds();
    }

    private static RingArticles busy() {
        RingArticles x = Check.crew(Check.CREW);
        x.chases(1);
        x.chases(3);
        x.hides(2, 4);
        x.saw(3, 1);
        x.keep(0);
        return x;
    }

    private static void nothingIsChanged() {
        Sentences.of(TERMS, "(Nothing is changed.)");
        RingArticles asked = busy();
        for (int i = -1; i <= 5; i++) {
            asked.due(i);
            asked.holds(i);
            asked.deal(i);
            asked.raid(i);
            asked.odds(0, i, 0);
            asked.won(i);
            asked.split(i);
            asked.band(i);
            asked.keen();
        }
        RingArticles other = busy();
        Look.same("by asking", Look.whole(other), Look.whole(asked));
        Check.due("nor what is UNDONE", other.undo(), asked.undo());
        Look.same("as ahead of the hiding", Look.at(other), Look.at(asked));
        Check.due("nor an IMAGE", other.back(0), asked.back(0));
        Look.same("as it was kept", Look.at(other), Look.at(asked));
    }

    private static void due() {
        Sentences.of(TERMS, "DUE of a HAND: the coins he would have more, if it were SHARED NOW (wounds, too; 0, if "
            + "nobody is ABOARD).");
        RingArticles x = Check.crew("h1 1 0;h1 2 0;h1 3 0;s60 0;s60 0;s60 0;s0 59;s0 83;w20;");
        Check.same("THE CHEST is empty", Check.row(0, 0, 0), Rows.dues(x));
        x.chases(0);
        x.maroons(0);
        x.chases(1);
        x.chases(2);
        Check.same("nothing to pay wounds with", Check.row(0, 0, 0), Rows.dues(x));
        x.chases(3);
        Check.same("wounds of one MAROONED, too", Check.row(20, 32, 6), Rows.dues(x));
        x.shares();
        Check.same("1 coin is left", Check.row(0, 0, 0), Rows.dues(x));
        x.chases(4);
        Check.same("how many more, not how many in all", Check.row(0, 62, 21), Rows.dues(x));
        x.maroons(1);
        x.maroons(2);
        Check.same("nobody is ABOARD, a WOUND is not paid", Check.row(0, 0, 0), Rows.dues(x));
    }

    private static void raid() {
        int none = Check.NONE;
        Sentences.of(TERMS, "RAID: of all orders of SHIPS that were not met that by which, CHASED one behind another, "
            + "most GOLD is TAKEN, of several the first (by numbers): how much; the i-th SHIP (NONE: not so many).");
        Check.same("no SHIPS", Check.row(0, none, none, none, none, none), Rows.raids(Check.crew("h1 1 1;")));
        Check.same("none can be TAKEN", Check.row(0, 0, 1, none, none, none), Rows.raids(Check.crew("h1 1 1;s9 9;s8 8;")));
        Check.same("GOLD is 0", Check.row(0, 0, none, none, none, none), Rows.raids(Check.crew("h1 1 1;s0 0;")));
        Check.same("five, all TAKEN", Check.row(495, 0, 1, 2, 3, 4), Rows.raids(Check.crew("h1 1 1;" + "s1 99;".repeat(5))));
        Check.same("nobody ABOARD", Check.row(9, 0, 1, 2, none, none), Rows.raids(Check.crew("s1 9;s0 4;s0 5;")));
        RingArticles fewer = Check.crew("h1 5 0;h1 5 0;s6 9;");
        Check.due("by two", 9, fewer.raid(-1));
        fewer.maroons(1);
        Check.due("who is MAROONED does not fight", 0, fewer.raid(-1));
        RingArticles x = Check.crew("h1 5 0;s5 1;s5 2;s0 4;s6 8;");
        Check.same("the one that can't be TAKEN is last", Check.row(7, 0, 1, 2, 3, none), Rows.raids(x));
        x.chases(1);
        Check.same("one was TAKEN", Check.row(5, 0, 2, 3, none, none), Rows.raids(x));
        x.chases(3);
        Check.same("one was let go: FORCE is 4", Check.row(4, 0, 2, none, none, none), Rows.raids(x));
        x.chases(0);
        x.chases(2);
        Check.same("all were met", Check.row(0, none, none, none, none, none), Rows.raids(x));
    }

    private static void raidByWounds() {
        RingArticles x = Check.crew("h1 2 0;h1 3 0;s6 90;s5 10;s4 7;s3 1;");
        Check.same("a chase that fails costs FORCE", Check.row(18, 1, 0, 2, 3, Check.NONE), Rows.raids(x));
        x = Check.crew("h1 1 0;h1 4 0;s9 1;s9 1;s9 1;s4 50;s5 20;");
        Check.same("FORCE falls to 4 and no deeper", Check.row(70, 3, 4, 0, 1, 2), Rows.raids(x));
        x = Check.crew("h1 9 0;h1 2 0;s60 8;s60 9;s11 1;s10 2;s9 4;");
        Check.same("chases that fail stand as early as they may", Check.row(7, 2, 0, 3, 1, 4), Rows.raids(x));
        x = Check.crew("h1 9 0;h1 2 0;s0 1;s60 8;s11 1;s10 2;s9 4;");
        x.chases(0);
        x.hides(1, 1);
        x.finds(1);
        Check.same("WOUNDED already", Check.row(6, 3, 1, 2, 4, Check.NONE), Rows.raids(x));
    }

    private static void deal() {
        Sentences.of(TERMS, "DEAL: all PIECES given to those ABOARD: of all ways that by which the greatest of how far "
            + "each is from his due is least (his PIECES times all PARTS, from his PART times all WORTH, up or down), "
            + "of several the first (HAND of PIECE 0, then 1, ..): how far; the HAND of a PIECE; NONE (nobody "
            + "ABOARD).");
        Check.same("no PIECES", Check.row(0), Rows.deals(Check.crew("h1 0 0;h1 0 0;")));
        // PARTS are 2, 1, 1 of 4, WORTH is 8: due are 16, 8, 8, and the PIECE brings 32.
        Check.same("up", Check.row(16, 0), Rows.deals(Check.crew("h1 0 0;h1 0 0;h1 0 0;p8;")));
        // PARTS are 6, 5, 5 of 16, WORTH is 16: due are 96, 80, 80; by 0, 1, 2 HAND 0 would be 32 under his.
        Check.same("down", Check.row(16, 1, 0, 2), Rows.deals(Check.crew("h3 0 0;h5 0 0;h5 0 0;p4;p6;p6;")));
        Check.same("of several the first", Check.row(0, 0, 1), Rows.deals(Check.crew("h1 0 0;h2 0 0;p3;p3;")));
        Check.same("five PIECES alike", Check.row(0, 0, 0, 1, 2, 3),
            Rows.deals(Check.crew("h1 0 0;".repeat(4) + "p9;".repeat(5))));
        RingArticles x = Check.crew("h1 0 0;h1 0 0;h1 0 0;l0 1;l2 1;p5;p10;");
        // PARTS are 2, 1, 1 of 4, WORTH is 15: due are 30, 15, 15; PIECES bring 20 and 40.
        Check.same("three HANDS", Check.row(15, 1, 0), Rows.deals(x));
        x.votes(1);
        Check.same("the CAPTAIN has double", Check.row(15, 0, 1), Rows.deals(x));
        x.maroons(0);
        Check.same("to those ABOARD", Check.row(0, 2, 1), Rows.deals(x));
        x.maroons(1);
        Check.same("one has all", Check.row(0, 2, 2), Rows.deals(x));
        x.maroons(2);
        Check.same("nobody ABOARD", Check.row(Check.NONE, Check.NONE, Check.NONE), Rows.deals(x));
        // HAND 1 with the piece of 50 is 98 over his due; whoever has the other one is nearer, but for him.
        x = Check.crew("h1 0 0;h1 0 0;h1 0 0;h1 0 0;p1;p50;");
        x.maroons(0);
        Check.same("not to one MAROONED, though he is lowest", Check.row(98, 2, 1), Rows.deals(x));
    }

    private static void won() {
        Sentences.of(TERMS, "WON for a HAND ABOARD: the fewest others ABOARD who must LIKE him besides those who do so "
            + "that he is voted for (0: none); NONE: he is not ABOARD.");
        int[][] due = {{0}, {1, 0}, {1, 0, 0}, {2, 1, 0, 0}, {2, 1, 0, 0, 0}, {3, 2, 1, 0, 0, 0}};
        for (int hands = 1; hands <= 6; hands++) {
            StringBuilder text = new StringBuilder("h1 0 0;".repeat(hands));
            for (int likers = 0; likers < hands; likers++) {
                RingArticles x = Check.crew(text.toString());
                Check.due(likers + " of " + hands + " LIKE him", due[hands - 1][likers], x.won(hands - 1));
                if (likers < hands - 1) {
                    text.append('l').append(likers).append(' ').append(hands - 1).append(';');
                }
            }
        }
        RingArticles x = Check.crew("h1 0 0;h1 0 0;h1 0 0;h1 0 0;l1 0;l2 0;");
        Check.due("the CAPTAIN, too", 0, x.won(0));
        x.maroons(1);
        Check.due("two of three", 0, x.won(0));
        x.maroons(2);
        Check.due("who are MAROONED have no voice", 1, x.won(0));
        Check.due("not ABOARD", Check.NONE, x.won(1));
    }

    private static void rivals() {
        Sentences.of(TERMS, "RIVALS: HANDS ABOARD (bits), the CAPTAIN too, whom those who LIKE them and they "
            + "themselves would make CAPTAIN NOW.");
        Check.due("nobody", 0, new RingArticles().now(6));
        Check.due("one alone", 1, Check.crew("h1 0 0;").now(6));
        Check.due("half of two", 0, Check.crew("h1 0 0;h1 0 0;").now(6));
        Check.due("the CAPTAIN and another one", 3, Check.crew("h1 0 0;h1 0 0;l0 1;l1 0;").now(6));
        RingArticles x = Check.crew("h1 0 0;".repeat(6) + "l0 5;l1 5;l2 5;l0 4;l1 4;");
        Check.due("four of six; three are half", 32, x.now(6));
        x.maroons(2);
        Check.due("three of five", 48, x.now(6));
        x.maroons(0);
        Check.due("two of four are half", 0, x.now(6));
        x.maroons(3);
        Check.due("two of three", 48, x.now(6));
        x.maroons(5);
        Check.due("ABOARD", 16, x.now(6));
    }

    private static void splits(String what, RingArticles x, int sets, int first) {
        Check.same(what + ", how many and the first", Check.row(sets, first), Rows.splits(x));
    }

    private static void split() {
        Sentences.of(TERMS, "SPLIT: sets of those ABOARD (with the lowest of them) that go on one ship, the others on "
            + "another one (or nobody), so that nobody LIKES more on the other one than on his own: how many such "
            + "sets; the first (bits, least).");
        splits("nobody ABOARD", new RingArticles(), 0, Check.NONE);
        splits("one, and nobody on the other", Check.crew("h1 0 0;"), 1, 1);
        splits("two", Check.crew("h1 0 0;h1 0 0;"), 2, 1);
        splits("six who LIKE nobody", Check.crew("h1 0 0;".repeat(6)), 32, 1);
        splits("he would change", Check.crew("h1 0 0;h1 0 0;l0 1;"), 1, 3);
        splits("the other one would change", Check.crew("h1 0 0;h1 0 0;l1 0;"), 1, 3);
        splits("one here and one there is no more", Check.crew("h1 0 0;h1 0 0;h1 0 0;l0 1;l0 2;"), 3, 3);
        splits("two there and one here is more", Check.crew("h1 0 0;".repeat(4) + "l0 1;l0 2;l0 3;"), 4, 7);
        splits("all LIKE all", Check.crew("h1 0 0;".repeat(3) + "l0 1;l0 2;l1 0;l1 2;l2 0;l2 1;"), 1, 7);
        RingArticles x = Check.crew("h1 0 0;h1 0 0;h1 0 0;l1 0;l1 2;");
        splits("three", x, 3, 1);
        x.maroons(0);
        splits("with the lowest ABOARD; who is MAROONED is not counted", x, 1, 6);
        x.maroons(1);
        splits("the last one", x, 1, 4);
        x.maroons(2);
        splits("all MAROONED", x, 0, Check.NONE);
    }

    private static void band() {
        Sentences.of(TERMS, "BAND of a HAND: those ABOARD whom he LIKES, and who LIKE him (bits).");
        RingArticles x = Check.crew("h1 0 0;".repeat(6) + "l0 5;l5 0;l0 1;l1 0;l0 2;l3 0;");
        Check.due("both ways", 34, x.band(0));
        Check.due("he is LIKED", 0, x.band(2));
        Check.due("he LIKES", 0, x.band(3));
        Check.due("neither", 0, x.band(4));
        Check.due("the last one", 1, x.band(5));
        x.maroons(1);
        Check.due("those ABOARD", 32, x.band(0));
        Check.due("of one MAROONED", 1, x.band(1));
    }

    private static void saw() {
        Sentences.of(TERMS, "SAW: PISTOLS told (6 at most): of a set of HANDS (bits, not empty) one had it.");
        RingArticles x = Check.crew("h1 0 0;".repeat(6));
        Check.due("an empty set", Check.BAD, x.saw(0, 0));
        Check.due("all HANDS", 1, x.saw(63, 5));
        Check.due("one HAND", 2, x.saw(32, 5));
        Check.due("not one of them", Check.BAD, x.saw(31, 5));
        Check.due("the lowest", 3, x.saw(1, 0));
        Check.due("the same again", 4, x.saw(1, 0));
        Check.due("the fifth", 5, x.saw(6, 1));
        Check.due("the sixth", 6, x.saw(6, 2));
        Check.due("a seventh", Check.FULL, x.saw(6, 2));
        Check.due("six are told", 6, x.count(4));
        Check.due("no PISTOL is given by it", 0, x.hand(5, 9));
    }

    private static void keen() {
        Sentences.of(TERMS, "KEEN: HANDS (bits) of whom there is no set told with him in it of which another "
            + "one had it.");
        Check.due("no HANDS", 0, new RingArticles().keen());
        RingArticles x = Check.crew("h1 0 0;".repeat(6));
        Check.due("nothing told", 63, x.keen());
        x.saw(32, 5);
        Check.due("alone in it", 63, x.keen());
        x.saw(35, 5);
        Check.due("he had it himself", 60, x.keen());
        x.saw(12, 2);
        Check.due("another set", 52, x.keen());
        x.saw(33, 0);
        Check.due("had one, had another one not", 20, x.keen());
        x.maroons(2);
        Check.due("ABOARD or not", 20, x.keen());
        x.saw(16, 4);
        x.saw(63, 1);
        Check.due("by the sixth, nobody is left", 0, x.keen());
    }

    private static void odd(RingArticles x, int s, int tenths, int upper, int lower) {
        Check.same("SHIP " + s + " by " + tenths, Check.row(upper, lower), Rows.odds(x, s, tenths));
    }

    private static void odds() {
        Sentences.of(TERMS, "ODDS of a SHIP by x (0 .. 10): each one ABOARD is sick by x in 10, for himself, and does "
            + "not fight: that FORCE of the others is GUNS or more: a fraction.");
        RingArticles x = Check.crew("h1 2 0;h1 3 0;s0 9;s2 0;s3 0;s5 0;s6 0;");
        odd(x, 0, 3, 1, 1);
        odd(x, 1, 3, 91, 100);
        odd(x, 2, 3, 7, 10);
        odd(x, 3, 3, 49, 100);
        odd(x, 4, 3, 0, 1);
        odd(x, 3, 0, 1, 1);
        odd(x, 4, 0, 0, 1);
        odd(x, 0, 10, 1, 1);
        odd(x, 1, 10, 0, 1);
        odd(x, 3, 5, 1, 4);
        x.chases(0);
        x.hides(0, 1);
        x.finds(0);
        odd(x, 1, 3, 7, 10);
        odd(x, 3, 0, 0, 1);
        x.maroons(1);
        odd(x, 1, 3, 0, 1);
        odd(x, 0, 3, 1, 1);
        x.maroons(0);
        odd(x, 0, 10, 1, 1);
        odd(x, 1, 0, 0, 1);
        RingArticles six = Check.crew("h1 9 0;".repeat(6) + "s54 0;s55 0;s46 0;s45 0;s1 0;");
        odd(six, 0, 1, 531441, 1000000);
        odd(six, 0, 9, 1, 1000000);
        odd(six, 1, 0, 0, 1);
        odd(six, 2, 1, 531441, 1000000);
        odd(six, 3, 1, 177147, 200000);
        odd(six, 4, 1, 999999, 1000000);
    }

    private static void holds() {
        Sentences.of(TERMS, "HOLDS by n (0 .. 99): HANDS ABOARD (bits) for whom DUE is n coins or more.");
        RingArticles x = Check.crew("h1 1 0;h1 2 0;h1 3 0;s60 0;s60 0;s0 59;w20;");
        Check.due("THE CHEST is empty, 0", 7, x.holds(0));
        Check.due("THE CHEST is empty, 1", 0, x.holds(1));
        x.chases(0);
        x.maroons(0);
        x.chases(1);
        x.chases(2);
        Check.same("DUE", Check.row(20, 32, 6), Rows.dues(x));
        Check.due("ABOARD", 6, x.holds(0));
        Check.due("6 or more", 6, x.holds(6));
        Check.due("7 or more", 2, x.holds(7));
        Check.due("32 or more", 2, x.holds(32));
        Check.due("33 or more", 0, x.holds(33));
        x.maroons(1);
        x.maroons(2);
        Check.due("nobody ABOARD", 0, x.holds(0));
        RingArticles rich = Check.crew("h1 0 0;h1 0 0;s0 99;s0 50;s0 99;");
        rich.chases(0);
        rich.chases(1);
        Check.due("DUE is 98 and 49", 0, rich.holds(99));
        Check.due("DUE is 98", 1, rich.holds(98));
        rich.chases(2);
        Check.due("DUE is above 99", 1, rich.holds(99));
    }
}
