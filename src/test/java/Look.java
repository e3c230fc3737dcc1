/** All that an object tells of NOW, as one line, so that two moments can be laid side by side. */
final class Look {
    private Look() {
    }

    static String at(RingArticles x) {
        StringBuilder line = new StringBuilder();
        for (int what = 0; what <= 6; what++) {
            line.append(x.now(what)).append(' ');
        }
        line.append("undo ").append(x.count(5));
        for (int h = 0; h < x.count(0); h++) {
            line.append(" hand");
            for (int what = 4; what <= 9; what++) {
                line.append(' ').append(x.hand(h, what));
            }
        }
        line.append(" ships");
        for (int s = 0; s < x.count(1); s++) {
            line.append(' ').append(x.ship(s, 2));
        }
        return line.toString();
    }

    /** All that an object tells, but for what its IMAGES hold and what may be UNDONE. */
    static String whole(RingArticles x) {
        StringBuilder line = new StringBuilder(at(x));
        line.append(" counts");
        for (int what = 0; what <= 6; what++) {
            line.append(' ').append(x.count(what));
        }
        for (int h = 0; h < x.count(0); h++) {
            line.append(" told ").append(x.hand(h, 0)).append(' ').append(x.hand(h, 1)).append(' ')
                .append(x.hand(h, 2)).append(' ').append(x.hand(h, 3)).append(" due ").append(x.due(h));
        }
        for (int s = 0; s < x.count(1); s++) {
            line.append(" ship ").append(x.ship(s, 0)).append(' ').append(x.ship(s, 1));
        }
        for (int p = 0; p < x.count(2); p++) {
            line.append(" piece ").append(x.piece(p));
        }
        return line.append(" keen ").append(x.keen()).append(" trace ").append(x.trace()).toString();
    }

    static void same(String what, String want, String got) {
        if (!want.equals(got)) {
            System.out.println("  due: " + want);
            System.out.println("  got: " + got);
            Check.due(what, 1, 0);
        }
    }
}
