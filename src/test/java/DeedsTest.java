/** Promises 8 to 15, 28 and 29: what is done, undone and kept. */
public final class DeedsTest {
    public static void main(String[] args) {
        chasing();
        chasingWithNobody();
        sharing();
        woundsBeforeParts();
        voting();
        marooning();
        hidingAndFinding();
        undoing();
        tenAreKnown();
        everyDeedIsUndone();
        nowNumbers();
        images();
        imagesHoldWhatMayBeUndone();
        Check.end();
    }

    private static void chasing() {
        RingArticles x = Check.crew(Check.CREW);
        Check.due("8: FORCE is GUNS", 70, x.chases(1));
        Check.due("8: THE CHEST", 70, x.now(0));
        Check.due("8: met", Check.STATE, x.chases(1));
        Check.due("8: FORCE is less", -5, x.chases(3));
        Check.due("8: let go is met", Check.STATE, x.chases(3));
        Check.same("8: the weakest is WOUNDED", Check.row(0, 0, 0, 1), Check.hands(x, 6));
        Check.same("8: not paid yet", Check.row(0, 0, 0, 1), Check.hands(x, 7));
        Check.same("8: PISTOLS either way", Check.row(0, 2, 0, 0), Check.hands(x, 9));
        Check.due("8: THE CHEST stays", 70, x.now(0));
        Check.due("8: FORCE falls", 15, x.now(3));
        for (int s : new int[] {-1, 4, Check.LEAST, Check.MOST}) {
            Check.due("8: no ship " + s, Check.BAD, x.chases(s));
        }
        Check.due("8: refused calls are no steps", 2, x.count(5));

        x.chases(0);
        Check.due("8: TAKEN earlier", 1, x.ship(1, 2));
        Check.due("8: TAKEN now", 1, x.ship(0, 2));

        RingArticles even = Check.crew("h1 9 3;h1 2 7;h1 2 7;h1 0 0;s60 1;s60 2;s60 3;s11 0;");
        even.chases(0);
        even.chases(1);
        Check.same("8: who fights for 0 is weakest still", Check.row(0, 0, 0, 2), Check.hands(even, 6));
        Check.same("8: most EYES, the lowest", Check.row(0, 2, 0, 0), Check.hands(even, 9));
        even.maroons(3);
        even.chases(2);
        Check.same("8: of several the lowest", Check.row(0, 1, 0, 2), Check.hands(even, 6));
        Check.due("8: FORCE by those ABOARD", 12, even.now(3));
        Check.due("8: GOLD 0 is TAKEN too", 0, even.chases(3));
        Check.due("8: it is TAKEN", 1, even.ship(3, 2));
    }

    private static void chasingWithNobody() {
        RingArticles x = Check.crew("s0 5;s1 7;");
        Check.due("8: GUNS 0 and nobody", 5, x.chases(0));
        Check.due("8: GUNS 1 and nobody", -5, x.chases(1));
        Check.due("8: THE CHEST", 5, x.now(0));
        Check.due("8: met", 3, x.now(5));
        Check.due("9: nobody shares", Check.STATE, x.shares());
        RingArticles left = Check.crew("h1 1 1;s1 7;");
        left.maroons(0);
        Check.due("8: a HAND MAROONED does not fight", -5, left.chases(0));
        Check.due("8: nor is he WOUNDED", 0, left.hand(0, 6));
        Check.due("8: nor has he a PISTOL", 0, left.hand(0, 9));
    }

    private static void sharing() {
        RingArticles x = Check.crew(Check.CREW);
        x.chases(1);
        x.chases(3);
        x.chases(0);
        Check.due("9: for each PART", 6, x.shares());
        Check.same("9: COINS", Check.row(48, 12, 18, 21), Check.hands(x, 5));
        Check.due("9: the rest stays", 11, x.now(0));
        Check.same("9: paid", Check.row(0, 0, 0, 0), Check.hands(x, 7));
        Check.same("9: WOUNDED still", Check.row(0, 0, 0, 1), Check.hands(x, 6));
        Check.due("9: too few", 0, x.shares());
        x.chases(2);
        Check.due("9: added up", 1, x.shares());
        Check.same("9: COINS added up", Check.row(56, 14, 21, 22), Check.hands(x, 5));
        x.maroons(0);
        x.maroons(1);
        x.maroons(2);
        Check.due("9: one alone, as CAPTAIN", 3, x.shares());
        Check.due("9: he has double", 28, x.hand(3, 5));
        x.maroons(3);
        Check.due("9: nobody is ABOARD", Check.STATE, x.shares());
    }

    private static void woundsBeforeParts() {
        RingArticles x = Check.crew("h1 5 0;h1 1 0;h1 3 0;s60 0;s60 0;s60 0;s60 0;s0 50;w20;");
        x.chases(0);
        x.maroons(1);
        x.chases(1);
        x.chases(2);
        x.chases(3);
        Check.same("9: WOUNDS not paid", Check.row(0, 1, 3), Check.hands(x, 7));
        x.chases(4);
        Check.due("9: DUE of a HAND MAROONED", 20, x.due(1));
        Check.due("9: what is left by PARTS", 3, x.shares());
        Check.same("9: paid HAND by HAND, MAROONED too", Check.row(6, 20, 23), Check.hands(x, 5));
        Check.same("9: those that were not paid", Check.row(0, 0, 2), Check.hands(x, 7));
        Check.due("9: the rest", 1, x.now(0));
        x.undo();
        x.hides(0, 10);
        Check.due("9: just enough", 0, x.shares());
        Check.same("9: COINS", Check.row(0, 20, 20), Check.hands(x, 5));
        x.undo();
        x.hides(0, 1);
        Check.due("9: one coin too few for the second", 6, x.shares());
        Check.same("9: COINS", Check.row(12, 20, 6), Check.hands(x, 5));
        Check.same("9: not paid", Check.row(0, 0, 3), Check.hands(x, 7));

        RingArticles free = Check.crew("h1 0 0;s1 0;s1 0;w0;");
        free.chases(0);
        free.chases(1);
        Check.due("9: WOUND 0 is paid out of nothing", 0, free.shares());
        Check.due("9: all of them", 0, free.hand(0, 7));
        Check.due("9: for 0 coins", 0, free.hand(0, 5));
    }

    private static void voting() {
        RingArticles x = Check.crew(Check.CREW);
        Check.due("10: the CAPTAIN", Check.STATE, x.votes(0));
        Check.due("10: two of four are not more than half", 0, x.votes(3));
        Check.due("10: alone of four", 0, x.votes(2));
        Check.due("10: a VOTE that fails was one, too", 2, x.count(5));
        Check.due("10: all of four", 1, x.votes(1));
        Check.due("10: CAPTAIN", 1, x.now(1));
        Check.due("10: he has double", 4 + 4 + 3 + 1, x.now(4));
        x.maroons(0);
        Check.due("10: two of three", 3, x.votes(3));
        x.maroons(2);
        Check.due("10: not ABOARD", Check.STATE, x.votes(2));
        for (int h : new int[] {-1, 4, Check.LEAST, Check.MOST}) {
            Check.due("10: no hand " + h, Check.BAD, x.votes(h));
        }
        RingArticles gone = Check.crew("h1 0 0;h1 0 0;h1 0 0;l2 1;");
        gone.maroons(2);
        Check.due("10: who is MAROONED has no voice", 0, gone.votes(1));
    }

    private static void marooning() {
        RingArticles x = Check.crew(Check.CREW);
        Check.due("11: three left", 3, x.maroons(1));
        Check.due("11: CAPTAIN as he was", 0, x.now(1));
        Check.due("11: again", Check.STATE, x.maroons(1));
        Check.due("11: ABOARD", 0, x.hand(1, 4));
        Check.due("11: ABOARD, bits", 13, x.now(2));
        Check.due("11: FORCE", 13, x.now(3));
        Check.due("11: PARTS", 12, x.now(4));
        Check.due("11: the CAPTAIN", 2, x.maroons(0));
        Check.due("11: the lowest ABOARD is CAPTAIN then", 2, x.now(1));
        x.maroons(3);
        Check.due("11: nobody", 0, x.maroons(2));
        Check.due("11: NONE is CAPTAIN", Check.NONE, x.now(1));
        for (int h : new int[] {-1, 4, Check.LEAST, Check.MOST}) {
            Check.due("11: no hand " + h, Check.BAD, x.maroons(h));
        }
    }

    private static void hidingAndFinding() {
        RingArticles x = Check.crew(Check.CREW);
        Check.due("12: an empty chest", Check.STATE, x.hides(0, 1));
        x.chases(1);
        x.chases(0);
        Check.due("12: BAD ahead of STATE", Check.BAD, x.hides(0, 0));
        Check.due("12: n above", Check.BAD, x.hides(0, 100));
        Check.due("12: n far below", Check.BAD, x.hides(0, Check.LEAST));
        Check.due("12: no hand", Check.BAD, x.hides(4, 1));
        Check.due("12: no hand", Check.BAD, x.hides(-1, 1));
        Check.due("12: 99", 99, x.hides(2, 99));
        Check.due("12: more than there is", Check.STATE, x.hides(2, 12));
        Check.due("12: all there is, added up", 110, x.hides(2, 11));
        Check.due("12: THE CHEST", 0, x.now(0));
        Check.due("12: what he hid", 110, x.hand(2, 8));
        Check.due("12: no COINS of sharings", 0, x.hand(2, 5));
        Check.due("13: he hid nothing", Check.STATE, x.finds(1));
        x.maroons(2);
        Check.due("12: not ABOARD", Check.STATE, x.hides(2, 1));
        Check.due("13: FOUND with one MAROONED, too", 110, x.finds(2));
        Check.due("13: THE CHEST", 110, x.now(0));
        Check.due("13: WOUNDED", 1, x.hand(2, 6));
        Check.due("13: paid for already", 0, x.hand(2, 7));
        Check.due("13: nothing is hidden", 0, x.hand(2, 8));
        Check.due("13: again", Check.STATE, x.finds(2));
        Check.due("12: not ABOARD, though there is enough", Check.STATE, x.hides(2, 1));
        for (int h : new int[] {-1, 4, Check.LEAST, Check.MOST}) {
            Check.due("13: no hand " + h, Check.BAD, x.finds(h));
            Check.due("12: no hand " + h, Check.BAD, x.hides(h, 1));
        }
    }

    private static void undoing() {
        RingArticles x = Check.crew(Check.CREW);
        Check.due("14: none", Check.STATE, x.undo());
        x.chases(0);
        x.chases(3);
        x.votes(1);
        Check.due("14: the VOTE", 2, x.undo());
        Check.due("14: CAPTAIN", 0, x.now(1));
        Check.due("14: the chase", 1, x.undo());
        Check.same("14: nobody is WOUNDED", Check.row(0, 0, 0, 0), Check.hands(x, 6));
        Check.due("14: the ship is not met", 0, x.ship(3, 2));
        Check.due("14: one PISTOL", 1, x.hand(1, 9));
        Check.due("14: the first", 0, x.undo());
        Check.due("14: THE CHEST", 0, x.now(0));
        Check.due("14: none again", Check.STATE, x.undo());
        Check.due("14: chased again", 40, x.chases(0));
        x.undo();
        x.maroons(2);
        x.chases(0);
        Check.due("14: what was TAKEN once is let go", 2, x.ship(0, 2));
    }

    private static void tenAreKnown() {
        RingArticles x = Check.crew("h1 9 0;s0 99;");
        x.chases(0);
        for (int i = 1; i <= 11; i++) {
            x.hides(0, i);
            Check.due("14: steps known", Math.min(10, i + 1), x.count(5));
        }
        Check.due("14: hidden", 66, x.hand(0, 8));
        for (int left = 9; left >= 0; left--) {
            Check.due("14: how many more", left, x.undo());
            Check.due("14: what he hid then", (left + 1) * (left + 2) / 2, x.hand(0, 8));
        }
        Check.due("14: older ones are lost", Check.STATE, x.undo());
        Check.due("14: and stay done", 98, x.now(0));
    }

    private static void everyDeedIsUndone() {
        RingArticles x = Check.crew(Check.CREW);
        x.chases(0);
        x.chases(3);
        x.hides(2, 4);
        String before = Look.at(x);
        x.shares();
        Check.due("14: sharing changed much", 0, before.equals(Look.at(x)) ? 1 : 0);
        x.undo();
        Look.same("14: sharing undone", before, Look.at(x));
        x.finds(2);
        x.undo();
        Look.same("14: finding undone", before, Look.at(x));
        x.maroons(0);
        x.undo();
        Look.same("14: marooning undone", before, Look.at(x));
        x.votes(1);
        x.undo();
        Look.same("14: voting undone", before, Look.at(x));
        x.chases(1);
        x.undo();
        Look.same("14: chasing undone", before, Look.at(x));
        x.hides(1, 1);
        x.undo();
        Look.same("14: hiding undone", before, Look.at(x));
    }

    private static void nowNumbers() {
        RingArticles x = Check.crew(Check.CREW);
        x.chases(2);
        x.chases(3);
        int[] got = new int[7];
        for (int i = 0; i < 7; i++) {
            got[i] = x.now(i);
        }
        Check.same("15: now", Check.row(9, 0, 15, 15, 14, 12, 2), got);
        for (int what : new int[] {-1, 7, Check.LEAST, Check.MOST}) {
            Check.due("15: now, what " + what, Check.BAD, x.now(what));
        }
        RingArticles weak = Check.crew("h1 1 0;h1 4 0;s60 1;s60 1;s60 1;l0 1;l1 0;");
        weak.chases(0);
        weak.chases(1);
        weak.chases(2);
        Check.due("15: WOUNDED more than he fights", 3, weak.hand(0, 6));
        Check.due("15: FORCE of each is 0 at least", 4, weak.now(3));
        Check.due("15: RIVALS, the CAPTAIN too", 3, weak.now(6));
        weak.maroons(1);
        Check.due("15: RIVALS ABOARD", 1, weak.now(6));
        Check.due("15: one alone is a RIVAL", 1, Check.crew("h1 1 1;").now(6));
        Check.due("15: half is not enough", 0, Check.crew("h1 1 1;h1 1 1;").now(6));
    }

    private static void images() {
        RingArticles x = Check.crew(Check.CREW);
        x.chases(1);
        x.hides(3, 7);
        x.finds(3);
        x.hides(3, 6);
        x.votes(1);
        x.chases(3);
        String kept = Look.at(x);
        Check.due("28: THE CHEST", 64, x.keep(0));
        Check.due("29: none was kept", Check.STATE, x.back(1));
        x.shares();
        x.maroons(1);
        x.chases(0);
        x.saw(1, 0);
        x.mark(5, 0);
        x.type('h');
        Check.due("28: THE CHEST in IMAGE 1", x.now(0), x.keep(1));
        String later = Look.at(x);
        Check.due("29: THE CHEST", 64, x.back(0));
        Look.same("29: as it was kept", kept, Look.at(x));
        Check.due("29: SAW stays", 1, x.count(4));
        Check.due("29: THE TRACE stays", 100001, x.trace());
        Check.due("29: THE TEXT stays", 1, x.count(6));
        x.maroons(0);
        x.back(0);
        Look.same("29: kept still", kept, Look.at(x));
        x.back(1);
        Look.same("29: IMAGE 1", later, Look.at(x));
        x.keep(0);
        x.undo();
        x.back(0);
        Look.same("28: kept over an older one", later, Look.at(x));
        for (int image : new int[] {-1, 2, Check.LEAST, Check.MOST}) {
            Check.due("28: no IMAGE " + image, Check.BAD, x.keep(image));
            Check.due("29: no IMAGE " + image, Check.BAD, x.back(image));
        }
    }

    private static void imagesHoldWhatMayBeUndone() {
        RingArticles x = Check.crew("h1 9 0;s0 99;");
        x.keep(1);
        x.chases(0);
        x.hides(0, 1);
        x.keep(0);
        x.hides(0, 2);
        x.undo();
        x.undo();
        x.undo();
        x.maroons(0);
        x.back(0);
        Check.due("29: two may be UNDONE", 2, x.count(5));
        Check.due("29: the hiding", 1, x.undo());
        Check.due("29: THE CHEST ahead of it", 99, x.now(0));
        Check.due("29: the chase", 0, x.undo());
        Check.due("29: THE CHEST ahead of all", 0, x.now(0));
        x.chases(0);
        x.back(1);
        Check.due("29: nothing may be UNDONE there", Check.STATE, x.undo());
        x.back(0);
        Check.due("29: an IMAGE is not changed by what is UNDONE later", 1, x.undo());
        Check.due("29: nor what it knows", 99, x.now(0));
        x.undo();
        x.maroons(0);
        x.chases(0);
        x.back(0);
        x.undo();
        Check.due("29: what was ABOARD ahead of the hiding", 1, x.now(2));
        Check.due("29: THE CHEST ahead of the hiding", 99, x.now(0));
        x.undo();
        Check.due("29: what was ABOARD ahead of the chase", 1, x.now(2));
    }
}
