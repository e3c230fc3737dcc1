/** What one sort of call answers for every number that it takes, one behind another. */
final class Rows {
    private Rows() {
    }

    static int[] dues(RingArticles x) {
        int[] row = new int[x.count(0)];
        for (int h = 0; h < row.length; h++) {
            row[h] = x.due(h);
        }
        return row;
    }

    /** How far, then the HAND of each PIECE. */
    static int[] deals(RingArticles x) {
        int[] row = new int[x.count(2) + 1];
        for (int p = -1; p < row.length - 1; p++) {
            row[p + 1] = x.deal(p);
        }
        return row;
    }

    /** How much, then the five places of the order. */
    static int[] raids(RingArticles x) {
        return Check.row(x.raid(-1), x.raid(0), x.raid(1), x.raid(2), x.raid(3), x.raid(4));
    }

    /** The upper number, then the lower one. */
    static int[] odds(RingArticles x, int s, int tenths) {
        return Check.row(x.odds(s, tenths, 0), x.odds(s, tenths, 1));
    }

    /** How many, then the first. */
    static int[] splits(RingArticles x) {
        return Check.row(x.split(0), x.split(1));
    }

    static int[] nows(RingArticles x) {
        return Check.row(x.now(0), x.now(1), x.now(2), x.now(3), x.now(4), x.now(5), x.now(6));
    }

    static int[] counts(RingArticles x) {
        return Check.row(x.count(0), x.count(1), x.count(2), x.count(3), x.count(4), x.count(5), x.count(6));
    }

    static int[] marks(RingArticles x, int h) {
        return Check.row(x.mark(0, h), x.mark(1, h), x.mark(2, h), x.mark(3, h), x.mark(4, h), x.mark(5, h));
    }
}
