/** Terms, chapter 1: what a text may tell, its TOKENS, and where its FAULT is. */
final class TextEdges {
    private static final String TERMS = "Terms";
    private static final String HAND = "h1 0 0;";

    private TextEdges() {
    }

    static void all() {
        hands();
        likes();
        ships();
        pieces();
        wound();
        bytes();
        items();
        tokens();
        firstTokenThatCantStand();
        tokensThatAreNone();
        endsTooEarly();
    }

    private static void fault(String text, int place) {
        RingArticles x = Check.crew("h3 2 1;w7;");
        Check.due("articles() of '" + text + "'", -10 - place, Check.read(x, text));
        Check.due("bytes left of '" + text + "'", text.length(), x.count(6));
        Check.due("WOUND as ahead of '" + text + "'", 7, x.count(3));
    }

    private static RingArticles well(String text, int items) {
        RingArticles x = new RingArticles();
        Check.due("articles() of '" + text + "'", items, Check.read(x, text));
        return x;
    }

    private static void hands() {
        Sentences.of(TERMS, "(6 of them at most): HALVES (1 .. 9), FIGHT (0 .. 9), EYES (0 .. 9).");
        RingArticles x = well("h1 0 0;h9 9 9;h1 9 0;h9 0 9;h5 4 3;h2 6 8;", 6);
        Check.due("HANDS", 6, x.count(0));
        Check.same("HALVES", Check.row(1, 9, 1, 9, 5, 2), Check.hands(x, 0));
        Check.same("FIGHT", Check.row(0, 9, 9, 0, 4, 6), Check.hands(x, 1));
        Check.same("EYES", Check.row(0, 9, 0, 9, 3, 8), Check.hands(x, 2));
        fault(HAND.repeat(7), 42);
        fault("h0 0 0;", 1);
        fault("h10 0 0;", 1);
        fault("h1 10 0;", 3);
        fault("h1 0 10;", 5);
    }

    private static void likes() {
        Sentences.of(TERMS, "A LIKES B (unlike HANDS; not both ways of itself).");
        RingArticles x = well(HAND.repeat(2) + "l0 1;", 3);
        Check.same("LIKES, one way", Check.row(2, 0), Check.hands(x, 3));
        x = well(HAND.repeat(2) + "l1 0;", 3);
        Check.same("LIKES, the other way", Check.row(0, 1), Check.hands(x, 3));
        x = well(HAND.repeat(6) + "l0 1;l0 2;l0 3;l0 4;l0 5;l5 0;l5 4;l2 5;", 14);
        Check.same("LIKES of six", Check.row(62, 0, 32, 0, 0, 17), Check.hands(x, 3));
        for (int time = 0; time < 2; time++) {
            Check.read(x, HAND.repeat(2) + "l0 1;l1 0;?");
            Check.read(x, HAND.repeat(2));
            Check.same("nobody LIKES whom a text before told", Check.row(0, 0), Check.hands(x, 3));
        }
        fault(HAND + "l0 0;", 10);
        fault(HAND.repeat(6) + "l5 5;", 45);
    }

    private static void ships() {
        Sentences.of(TERMS, "SHIPS 0 .. (5 of them at most): GUNS (0 .. 60), GOLD (0 .. 99).");
        RingArticles x = well("s0 0;s60 99;s0 99;s60 0;s10 9;", 5);
        Check.due("SHIPS", 5, x.count(1));
        Check.same("GUNS and GOLD", Check.row(0, 60, 0, 60, 10, 0, 99, 99, 0, 9),
            Check.row(x.ship(0, 0), x.ship(1, 0), x.ship(2, 0), x.ship(3, 0), x.ship(4, 0),
                x.ship(0, 1), x.ship(1, 1), x.ship(2, 1), x.ship(3, 1), x.ship(4, 1)));
        fault("s1 1;".repeat(6), 25);
        fault("s61 0;", 1);
        fault("s99 0;", 1);
        fault("s0 100;", 3);
    }

    private static void pieces() {
        Sentences.of(TERMS, "PIECES 0 .. (5 of them at most): WORTH (1 .. 99).");
        RingArticles x = well("p1;p99;p2;p10;p9;", 5);
        Check.due("PIECES", 5, x.count(2));
        Check.same("WORTH", Check.row(1, 99, 2, 10, 9),
            Check.row(x.piece(0), x.piece(1), x.piece(2), x.piece(3), x.piece(4)));
        fault("p1;".repeat(6), 15);
        fault("p0;", 1);
        fault("p100;", 1);
    }

    private static void wound() {
        Sentences.of(TERMS, "WOUND (0 .. 50 coins; 10 at first).");
        Check.due("of a new object", 10, new RingArticles().count(3));
        Check.due("least", 0, well("w0;", 1).count(3));
        RingArticles x = well("w50;", 1);
        Check.due("most", 50, x.count(3));
        Check.read(x, HAND);
        Check.due("of a text that does not tell it", 10, x.count(3));
        fault("w51;", 1);
        fault("w99;", 1);
    }

    private static void bytes() {
        Sentences.of(TERMS, "They are a text (150 bytes at most), read byte by byte, blanks (32) between TOKENS;");
        RingArticles x = well(" ".repeat(146) + "p99;", 1);
        Check.due("what the last of 150 bytes ends", 99, x.piece(0));
        x = new RingArticles();
        Check.tell(x, " ".repeat(147) + "p99");
        Check.due("byte 151", Check.FULL, x.type(';'));
        Check.due("it was not told", -160, x.articles());
        well("p1;p2;h1 2 3;", 3);
        well("   p   1   ;   h  1  2  3  ;  ", 2);
        for (int c : new int[] {0, 9, 10, 13, 31, 33, 95, 160, 255}) {
            fault("p1;" + (char) c, 3);
            fault("p" + (char) c + "1;", 1);
            fault("s1" + (char) c + "1;", 2);
        }
    }

    private static void items() {
        Sentences.of(TERMS, "ITEMS, each letters and what is told, ended by ; : h N F E (a hand) ; l A B (told ahead: "
            + "A LIKES B; told again: well) ; s G N (a ship: GUNS, GOLD) ; p N (a piece) ; w N (wound; once at most).");
        RingArticles x = well("w3;p4;s5 6;h7 8 9;h1 2 3;l1 0;", 6);
        Check.same("all of it", Check.row(3, 4, 5, 6, 7, 8, 9, 1), Check.row(x.count(3), x.piece(0), x.ship(0, 0),
            x.ship(0, 1), x.hand(0, 0), x.hand(0, 1), x.hand(0, 2), x.hand(1, 3)));
        fault("h1 0 0 p1;", 7);
        fault("s1 1 p1;", 5);
        fault("p1 p1;", 3);
        fault("w1 p1;", 3);
        fault(HAND.repeat(2) + "l0 1 p1;", 19);
        fault("l0 1;" + HAND.repeat(2), 1);
        fault(HAND + "l0 1;" + HAND, 10);
        fault(HAND + "l1 0;" + HAND, 8);
        x = well(HAND.repeat(2) + "l0 1;l0 1;", 4);
        Check.due("told again", 2, x.hand(0, 3));
        x = well(HAND.repeat(2) + "l0 1;l0 1;l0 1;", 5);
        Check.due("told once more", 2, x.hand(0, 3));
        fault("w10;w10;", 4);
        x = new RingArticles();
        for (int time = 0; time < 4; time++) {
            Check.due("once in each text", 1, Check.read(x, "w5;"));
            Check.due("once, and a FAULT", -13, Check.read(x, "w6;?"));
        }
        fault("w0;w0;", 3);
    }

    private static void tokens() {
        Sentences.of(TERMS, "TOKENS are letters a .. z side by side, NUMBERS and ; .");
        fault("a", 0);
        fault("z", 0);
        fault("pa1;", 0);
        fault("pz1;", 0);
        fault("ap1;", 0);
        fault("pp1;", 0);
        fault("p p1;", 2);
        fault("p`1;", 1);
        fault("p{1;", 1);
        fault("P1;", 0);
        fault("p1:", 2);
        fault("p1<", 2);
        fault("p/;", 1);
        fault("p1/;", 2);
        fault("p/1;", 1);
        fault("p1:;", 2);
        Check.due("09 is no NUMBER, 90 is", 90, well("p90;", 1).piece(0));
        Check.due("19", 19, well("p19;", 1).piece(0));
        fault("p1 9;", 3);
        fault(";", 0);
        fault("p1;;", 3);
    }

    private static void firstTokenThatCantStand() {
        Sentences.of(TERMS, "FAULT: the place of the first byte of the first TOKEN that can't stand there (letters "
            + "that begin no ITEM, a seventh hand, a sixth ship, a sixth piece, w again, B that is A, a NUMBER beyond "
            + "what it may be, too);");
        fault("x", 0);
        for (String letter : new String[] {"h", "l", "s", "p", "w"}) {
            RingArticles x = Check.crew("h1 0 0;h1 0 0;");
            Check.due("'" + letter + "' ends too early", -11, Check.read(x, letter));
            Check.due("'" + letter + letter + "' behind it begins no ITEM", -10, Check.read(x, letter + letter + "1;"));
        }
        fault("p1;  hand 1 1 1;", 5);
        fault("7", 0);
        fault("p1; 7", 4);
        fault("p;", 1);
        fault("p  h;", 3);
        fault(HAND.repeat(6) + " h", 43);
        fault(HAND.repeat(6) + "h0 0 0;", 42);
        fault("s1 1;".repeat(5) + "  s", 27);
        fault("p1;".repeat(5) + " p0", 16);
        fault("w1; w", 4);
        fault("w1;w51;", 3);
        fault(HAND + "l0  0", 11);
        fault(HAND.repeat(2) + "l 2 0;", 16);
        fault(HAND.repeat(2) + "l1 2;", 17);
        fault("l 0 1;", 2);
        fault("s 61 100;", 2);
        fault("p0;x;p100;", 1);
        fault("x;?", 0);
    }

    private static void tokensThatAreNone() {
        Sentences.of(TERMS, "of a byte that begins none, a NUMBER above 99 or with a 0 ahead of others, that TOKEN's;");
        fault("?", 0);
        fault("  -1", 2);
        fault("p1;" + (char) 200, 3);
        fault("p" + (char) 233 + "1;", 1);
        fault("p 100;", 2);
        fault("p 999", 2);
        fault("p1 100;", 3);
        fault("s0 100;", 3);
        fault("p 4294967297;", 2);
        fault("p18446744073709551617;", 1);
        fault("p" + "9".repeat(149), 1);
        fault("p01;", 1);
        fault("p00;", 1);
        fault("w 00;", 2);
        fault("w000", 1);
        fault("h1 01 0;", 3);
        fault("h1 0 00", 5);
        fault("100", 0);
        fault("p1; 00", 4);
        Check.due("0 alone is a NUMBER", 0, well("w0;", 1).count(3));
        Check.due("99 is a NUMBER", 99, well("p99;", 1).piece(0));
    }

    private static void endsTooEarly() {
        Sentences.of(TERMS, "the text's length, if it ends too early.");
        for (String text : new String[] {"h1 2 3", "s1 2", "p1", "w1"}) {
            for (int length = 1; length <= text.length(); length++) {
                fault(text.substring(0, length), length);
            }
        }
        fault(HAND.repeat(2) + "l", 15);
        fault(HAND.repeat(2) + "l0", 16);
        fault(HAND.repeat(2) + "l0 1", 18);
        fault("l", 1);
        fault("p   ", 4);
        fault("p1   ", 5);
        fault("p1;w5 ", 6);
        well("", 0);
        well("   ", 0);
        well("p1;   ", 1);
    }
}
