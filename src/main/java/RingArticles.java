/**
 * Articles that a crew signs in a ring: who has how much of what is taken, who is captain, which
 * ships are chased, and what follows from it. The document ../shared/DOC.md tells every call.
 */
public final class RingArticles {
    public static final int BAD = -1, STATE = -2, FULL = -3, NONE = -9;
    public static final int NO = -1000000;

    private static final int HANDS = 6;
    private static final int SHIPS = 5;
    private static final int PIECES = 5;
    private static final int BYTES = 150;
    private static final int STEPS = 10;
    private static final int SIGHTS = 6;
    private static final int FIRST_WOUND = 10;
    private static final int LET_GO = -5;
    private static final int FAULTS = -10;
    private static final int TENTHS = 10;

    private final Reader reader = new Reader();
    private final Log log = new Log();
    private final Log firstImage = new Log();
    private final Log secondImage = new Log();
    // The log's own moment: what is NOW.
    private final Moment at = log.moment;
    private final Sharing sharing = new Sharing();
    private final Dealing dealing = new Dealing();
    private final Raiding raiding = new Raiding();
    private final int[] sightSets = new int[SIGHTS];
    private final int[] sightOwners = new int[SIGHTS];
    private int sights = 0;
    private long asked = 0;
    private Told told = new Told();
    // What is being read stands apart until it is known to be without FAULT.
    private Told draft = new Told();

    public RingArticles() {
    }

    // ---- the articles

    public int type(int c) {
        if (c < 0 || c > 255) {
            return BAD;
        }
        return reader.append(c) ? reader.length : FULL;
    }

    public int clear() {
        int had = reader.length;
        reader.length = 0;
        return had;
    }

    public int articles() {
        if (!reader.readInto(draft)) {
            return FAULTS - reader.start;
        }
        Told old = told;
        told = draft;
        draft = old;
        reader.length = 0;
        log.begin(told.hands);
        firstImage.kept = false;
        secondImage.kept = false;
        sights = 0;
        return reader.items;
    }

    public int hand(int h, int what) {
        if (!isHand(h)) {
            return BAD;
        }
        switch (what) {
            case 0:
                return told.halves[h];
            case 1:
                return told.fight[h];
            case 2:
                return told.eyes[h];
            case 3:
                return told.likes[h];
            case 4:
                return at.hasAboard(h) ? 1 : 0;
            case 5:
                return at.coins[h];
            case 6:
                return at.wounds[h];
            case 7:
                return at.unpaid[h];
            case 8:
                return at.hidden[h];
            case 9:
                return at.pistols[h];
            default:
                return BAD;
        }
    }

    public int ship(int s, int what) {
        if (!isShip(s)) {
            return BAD;
        }
        switch (what) {
            case 0:
                return told.guns[s];
            case 1:
                return told.gold[s];
            case 2:
                return !isIn(at.met, s) ? 0 : isIn(at.taken, s) ? 1 : 2;
            default:
                return BAD;
        }
    }

    public int piece(int p) {
        return isPiece(p) ? told.worth[p] : BAD;
    }

    // ---- what is done

    public int chases(int s) {
        if (!isShip(s)) {
            return BAD;
        }
        if (isIn(at.met, s)) {
            return STATE;
        }
        log.remember();
        boolean taken = forceOf(told, at, at.aboard) >= told.guns[s];
        if (taken) {
            at.chest += told.gold[s];
            at.taken |= 1 << s;
        } else {
            woundWeakest();
        }
        at.met |= 1 << s;
        givePistol();
        return taken ? told.gold[s] : LET_GO;
    }

    public int shares() {
        if (at.aboard == 0) {
            return STATE;
        }
        log.remember();
        sharing.reckon(told, at);
        for (int h = 0; h < HANDS; h++) {
            at.coins[h] += sharing.gains[h];
            at.unpaid[h] -= sharing.paid[h];
        }
        at.chest = sharing.rest;
        return sharing.each;
    }

    public int votes(int h) {
        if (!isHand(h)) {
            return BAD;
        }
        if (!at.hasAboard(h) || at.captain == h) {
            return STATE;
        }
        log.remember();
        if (lacking(h) == 0) {
            at.captain = h;
        }
        return at.captain;
    }

    public int maroons(int h) {
        if (!isHand(h)) {
            return BAD;
        }
        if (!at.hasAboard(h)) {
            return STATE;
        }
        log.remember();
        at.aboard &= ~(1 << h);
        if (at.captain == h) {
            at.captain = lowestOf(at.aboard);
        }
        return Integer.bitCount(at.aboard);
    }

    public int hides(int h, int n) {
        if (!isHand(h) || n < 1 || n > 99) {
            return BAD;
        }
        if (!at.hasAboard(h) || at.chest < n) {
            return STATE;
        }
        log.remember();
        at.chest -= n;
        at.hidden[h] += n;
        return at.hidden[h];
    }

    public int finds(int h) {
        if (!isHand(h)) {
            return BAD;
        }
        int found = at.hidden[h];
        if (found == 0) {
            return STATE;
        }
        log.remember();
        at.chest += found;
        at.hidden[h] = 0;
        at.wounds[h]++;
        return found;
    }

    public int undo() {
        return log.stepBack() ? log.known : STATE;
    }

    public int now(int what) {
        switch (what) {
            case 0:
                return at.chest;
            case 1:
                return at.captain;
            case 2:
                return at.aboard;
            case 3:
                return forceOf(told, at, at.aboard);
            case 4:
                return allParts(told, at);
            case 5:
                return at.met;
            case 6:
                return rivals();
            default:
                return BAD;
        }
    }

    // ---- shares

    public int due(int h) {
        if (!isHand(h)) {
            return BAD;
        }
        sharing.reckon(told, at);
        return sharing.gains[h];
    }

    public int holds(int n) {
        if (n < 0 || n > 99) {
            return BAD;
        }
        sharing.reckon(told, at);
        int holders = 0;
        for (int h = 0; h < HANDS; h++) {
            if (at.hasAboard(h) && sharing.gains[h] >= n) {
                holders |= 1 << h;
            }
        }
        return holders;
    }

    public int deal(int p) {
        if (p != -1 && !isPiece(p)) {
            return BAD;
        }
        if (at.aboard == 0) {
            return NONE;
        }
        dealing.reckon(told, at);
        return p == -1 ? dealing.far : dealing.best[p];
    }

    // ---- chases, odds

    public int raid(int i) {
        if (i < -1 || i >= SHIPS) {
            return BAD;
        }
        raiding.reckon(told, at);
        if (i == -1) {
            return raiding.most;
        }
        return i < raiding.unmet ? raiding.best[i] : NONE;
    }

    public int odds(int s, int x, int what) {
        if (!isShip(s) || x < 0 || x > TENTHS || what < 0 || what > 1) {
            return BAD;
        }
        int upper = 0;
        for (int well = 0; well < 1 << HANDS; well++) {
            if ((well & ~at.aboard) == 0 && forceOf(told, at, well) >= told.guns[s]) {
                int sick = at.aboard & ~well;
                upper += power(x, Integer.bitCount(sick)) * power(TENTHS - x, Integer.bitCount(well));
            }
        }
        int lower = power(TENTHS, Integer.bitCount(at.aboard));
        int shared = commonDivisor(upper, lower);
        if (shared <= 0) {
            return BAD;
        }
        return what == 0 ? upper / shared : lower / shared;
    }

    // ---- votes, bands

    public int won(int h) {
        if (!isHand(h)) {
            return BAD;
        }
        return at.hasAboard(h) ? lacking(h) : NONE;
    }

    public int split(int what) {
        if (what < 0 || what > 1) {
            return BAD;
        }
        int lowest = lowestOf(at.aboard);
        int sets = 0;
        int first = NONE;
        for (int set = 1; set < 1 << HANDS; set++) {
            if ((set & ~at.aboard) == 0 && isIn(set, lowest) && allStay(set)) {
                sets++;
                first = first == NONE ? set : first;
            }
        }
        return what == 0 ? sets : first;
    }

    public int band(int h) {
        if (!isHand(h)) {
            return BAD;
        }
        return told.likes[h] & likersOf(h) & at.aboard;
    }

    // ---- who saw it

    public int saw(int set, int h) {
        if (set < 1 || set >= 1 << told.hands || !isHand(h) || !isIn(set, h)) {
            return BAD;
        }
        if (sights >= SIGHTS) {
            return FULL;
        }
        sightSets[sights] = set;
        sightOwners[sights] = h;
        sights++;
        return sights;
    }

    public int forget() {
        int had = sights;
        sights = 0;
        return had;
    }

    public int keen() {
        int left = (1 << told.hands) - 1;
        for (int i = 0; i < sights && i < SIGHTS; i++) {
            left &= ~(sightSets[i] & ~(1 << sightOwners[i]));
        }
        return left;
    }

    // ---- kinds, images

    public int mark(int kind, int h) {
        if (!isHand(h)) {
            return NO;
        }
        switch (kind) {
            case 0:
                return asHand(h);
            case 1:
                return asCarpenter(h);
            case 2:
                return asMusician(h);
            case 3:
                return asBoy(h);
            case 4:
                return asSick(h);
            case 5:
                return asCook(h);
            default:
                return NO;
        }
    }

    public int keep(int image) {
        Log stored = imageOf(image);
        if (stored == null) {
            return BAD;
        }
        stored.become(log);
        stored.kept = true;
        return at.chest;
    }

    public int back(int image) {
        Log stored = imageOf(image);
        if (stored == null) {
            return BAD;
        }
        if (!stored.kept) {
            return STATE;
        }
        log.become(stored);
        return at.chest;
    }

    public int count(int what) {
        switch (what) {
            case 0:
                return told.hands;
            case 1:
                return told.ships;
            case 2:
                return told.pieces;
            case 3:
                return told.wound;
            case 4:
                return sights;
            case 5:
                return log.known;
            case 6:
                return reader.length;
            default:
                return BAD;
        }
    }

    public long trace() {
        return asked;
    }

    // ---- what the calls above lean on

    private boolean isHand(int h) {
        return h >= 0 && h < told.hands;
    }

    private boolean isShip(int s) {
        return s >= 0 && s < told.ships;
    }

    private boolean isPiece(int p) {
        return p >= 0 && p < told.pieces;
    }

    private Log imageOf(int image) {
        return image == 0 ? firstImage : image == 1 ? secondImage : null;
    }

    private void woundWeakest() {
        int h = weakestOf(told, at);
        if (at.hasAboard(h)) {
            at.wounds[h]++;
            at.unpaid[h]++;
        }
    }

    private void givePistol() {
        int sharpest = NONE;
        int most = -1;
        for (int h = 0; h < HANDS; h++) {
            if (at.hasAboard(h) && told.eyes[h] > most) {
                sharpest = h;
                most = told.eyes[h];
            }
        }
        if (at.hasAboard(sharpest)) {
            at.pistols[sharpest]++;
        }
    }

    private int likersOf(int h) {
        int likers = 0;
        for (int other = 0; other < told.hands; other++) {
            if (isIn(told.likes[other], h)) {
                likers |= 1 << other;
            }
        }
        return likers;
    }

    /** How many voices more a HAND ABOARD needs so that, with his own, they are above half. */
    private int lacking(int h) {
        int needed = Integer.bitCount(at.aboard) / 2 + 1;
        int voices = Integer.bitCount(likersOf(h) & at.aboard) + 1;
        return Math.max(0, needed - voices);
    }

    private int rivals() {
        int set = 0;
        for (int h = 0; h < told.hands; h++) {
            if (at.hasAboard(h) && lacking(h) == 0) {
                set |= 1 << h;
            }
        }
        return set;
    }

    private boolean allStay(int set) {
        int others = at.aboard & ~set;
        for (int h = 0; h < told.hands; h++) {
            int liked = told.likes[h];
            int here = Integer.bitCount(liked & set);
            int there = Integer.bitCount(liked & others);
            if (isIn(set, h) && there > here || isIn(others, h) && here > there) {
                return false;
            }
        }
        return true;
    }

    // A body for each KIND; each asks the one above it once.

    private int asHand(int h) {
        asked += 1;
        return told.halves[h];
    }

    private int asCarpenter(int h) {
        asked += 10;
        return asHand(h) + told.fight[h];
    }

    private int asMusician(int h) {
        asked += 100;
        return asHand(h) - at.wounds[h];
    }

    private int asBoy(int h) {
        asked += 1000;
        return asCarpenter(h) * 2;
    }

    private int asSick(int h) {
        asked += 10000;
        return asMusician(h) + told.eyes[h];
    }

    private int asCook(int h) {
        asked += 100000;
        return asHand(h) + at.pistols[h];
    }

    private static boolean isIn(int set, int i) {
        return i >= 0 && i < 31 && (set >> i & 1) == 1;
    }

    private static int lowestOf(int set) {
        for (int h = 0; h < HANDS; h++) {
            if (isIn(set, h)) {
                return h;
            }
        }
        return NONE;
    }

    private static int power(int base, int times) {
        int product = 1;
        for (int i = 0; i < times; i++) {
            product *= base;
        }
        return product;
    }

    private static int commonDivisor(int a, int b) {
        int greater = b;
        int less = a;
        // Two steps halve what is left, so 64 are more than any int needs.
        for (int step = 0; step < 64 && less != 0; step++) {
            int rest = greater % less;
            greater = less;
            less = rest;
        }
        return greater;
    }

    private static int partOf(Told told, Moment at, int h) {
        if (!at.hasAboard(h)) {
            return 0;
        }
        return at.captain == h ? 2 * told.halves[h] : told.halves[h];
    }

    private static int allParts(Told told, Moment at) {
        int sum = 0;
        for (int h = 0; h < HANDS; h++) {
            sum += partOf(told, at, h);
        }
        return sum;
    }

    private static int strengthOf(Told told, Moment at, int h) {
        return Math.max(0, told.fight[h] - at.wounds[h]);
    }

    private static int forceOf(Told told, Moment at, int set) {
        int sum = 0;
        for (int h = 0; h < HANDS; h++) {
            if (isIn(set, h)) {
                sum += strengthOf(told, at, h);
            }
        }
        return sum;
    }

    /** He of those ABOARD who has least strength, of several the lowest; NONE if nobody is. */
    private static int weakestOf(Told told, Moment at) {
        int weakest = NONE;
        int least = 0;
        for (int h = 0; h < HANDS; h++) {
            if (at.hasAboard(h)) {
                int strength = strengthOf(told, at, h);
                if (weakest == NONE || strength < least) {
                    weakest = h;
                    least = strength;
                }
            }
        }
        return weakest;
    }

    /** What THE TEXT told: it stays as it is until the articles are read anew. */
    private static final class Told {
        int hands = 0;
        int ships = 0;
        int pieces = 0;
        int wound = FIRST_WOUND;
        boolean woundTold = false;
        final int[] halves = new int[HANDS];
        final int[] fight = new int[HANDS];
        final int[] eyes = new int[HANDS];
        final int[] likes = new int[HANDS];
        final int[] guns = new int[SHIPS];
        final int[] gold = new int[SHIPS];
        final int[] worth = new int[PIECES];

        void wipe() {
            hands = 0;
            ships = 0;
            pieces = 0;
            wound = FIRST_WOUND;
            woundTold = false;
            for (int h = 0; h < HANDS; h++) {
                likes[h] = 0;
            }
        }
    }

    /** THE TEXT, and how it is read: TOKEN by TOKEN, each FAULT being where its TOKEN starts. */
    private static final class Reader {
        private static final int END = 0;
        private static final int LETTERS = 1;
        private static final int NUMBER = 2;
        private static final int STOP = 3;
        private static final int WRONG = 4;

        final int[] text = new int[BYTES];
        int length = 0;
        int items = 0;
        int start = 0;
        private int place = 0;
        private int token = END;
        // A NUMBER's value; the letter, where LETTERS are one alone (0, where they are more).
        private int value = 0;

        boolean append(int c) {
            if (length < 0 || length >= BYTES) {
                return false;
            }
            text[length] = c;
            length++;
            return true;
        }

        boolean readInto(Told into) {
            into.wipe();
            items = 0;
            place = 0;
            for (int guard = 0; guard <= BYTES; guard++) {
                nextToken();
                if (token == END) {
                    return true;
                }
                if (token != LETTERS || !readItem(into)) {
                    return false;
                }
                items++;
            }
            return false;
        }

        private boolean readItem(Told into) {
            switch (value) {
                case 'h':
                    return readHand(into) && readStop();
                case 'l':
                    return readLiking(into) && readStop();
                case 's':
                    return readShip(into) && readStop();
                case 'p':
                    return readPiece(into) && readStop();
                case 'w':
                    return readWound(into) && readStop();
                default:
                    return false;
            }
        }

        private boolean readHand(Told into) {
            int h = into.hands;
            if (h < 0 || h >= HANDS || !readNumber(1, 9)) {
                return false;
            }
            into.halves[h] = value;
            if (!readNumber(0, 9)) {
                return false;
            }
            into.fight[h] = value;
            if (!readNumber(0, 9)) {
                return false;
            }
            into.eyes[h] = value;
            into.hands++;
            return true;
        }

        private boolean readLiking(Told into) {
            if (!readNumber(0, into.hands - 1)) {
                return false;
            }
            int liker = value;
            if (!readNumber(0, into.hands - 1) || value == liker || liker >= HANDS) {
                return false;
            }
            into.likes[liker] |= 1 << value;
            return true;
        }

        private boolean readShip(Told into) {
            int s = into.ships;
            if (s < 0 || s >= SHIPS || !readNumber(0, 60)) {
                return false;
            }
            into.guns[s] = value;
            if (!readNumber(0, 99)) {
                return false;
            }
            into.gold[s] = value;
            into.ships++;
            return true;
        }

        private boolean readPiece(Told into) {
            int p = into.pieces;
            if (p < 0 || p >= PIECES || !readNumber(1, 99)) {
                return false;
            }
            into.worth[p] = value;
            into.pieces++;
            return true;
        }

        private boolean readWound(Told into) {
            if (into.woundTold || !readNumber(0, 50)) {
                return false;
            }
            into.wound = value;
            into.woundTold = true;
            return true;
        }

        private boolean readNumber(int least, int most) {
            nextToken();
            return token == NUMBER && value >= least && value <= most;
        }

        private boolean readStop() {
            nextToken();
            return token == STOP;
        }

        private void nextToken() {
            while (place < length && text[place] == ' ') {
                place++;
            }
            start = place;
            token = sortAt(place);
            if (token != END) {
                place++;
            }
            while (place < length && (token == LETTERS || token == NUMBER) && sortAt(place) == token) {
                place++;
            }
            value = 0;
            if (token == LETTERS && place - start == 1) {
                value = text[start];
            } else if (token == NUMBER) {
                weighNumber();
            }
        }

        /** A NUMBER is well by its length alone: two signs, or one where it begins with 0. */
        private void weighNumber() {
            int first = text[start] - '0';
            if (place - start == 1) {
                value = first;
            } else if (place - start == 2 && first > 0) {
                value = first * 10 + text[start + 1] - '0';
            } else {
                token = WRONG;
            }
        }

        private int sortAt(int i) {
            if (i < 0 || i >= length || i >= BYTES) {
                return END;
            }
            int c = text[i];
            if (c >= 'a' && c <= 'z') {
                return LETTERS;
            }
            if (c >= '0' && c <= '9') {
                return NUMBER;
            }
            return c == ';' ? STOP : WRONG;
        }
    }

    /** All that deeds change, at one time. */
    private static final class Moment {
        int aboard = 0;
        int captain = NONE;
        int chest = 0;
        int met = 0;
        int taken = 0;
        final int[] coins = new int[HANDS];
        final int[] wounds = new int[HANDS];
        final int[] unpaid = new int[HANDS];
        final int[] hidden = new int[HANDS];
        final int[] pistols = new int[HANDS];

        boolean hasAboard(int h) {
            return h >= 0 && h < HANDS && isIn(aboard, h);
        }

        void begin(int hands) {
            aboard = (1 << hands) - 1;
            captain = hands > 0 ? 0 : NONE;
            chest = 0;
            met = 0;
            taken = 0;
            for (int h = 0; h < HANDS; h++) {
                coins[h] = 0;
                wounds[h] = 0;
                unpaid[h] = 0;
                hidden[h] = 0;
                pistols[h] = 0;
            }
        }

        static void copy(Moment from, Moment to) {
            if (from == null || to == null) {
                return;
            }
            to.aboard = from.aboard;
            to.captain = from.captain;
            to.chest = from.chest;
            to.met = from.met;
            to.taken = from.taken;
            for (int h = 0; h < HANDS; h++) {
                to.coins[h] = from.coins[h];
                to.wounds[h] = from.wounds[h];
                to.unpaid[h] = from.unpaid[h];
                to.hidden[h] = from.hidden[h];
                to.pistols[h] = from.pistols[h];
            }
        }
    }

    /** A moment and those ahead of it that may be gone back to, oldest first. */
    private static final class Log {
        final Moment moment = new Moment();
        int known = 0;
        boolean kept = false;
        private final Moment[] past = new Moment[STEPS];

        Log() {
            for (int i = 0; i < STEPS; i++) {
                past[i] = new Moment();
            }
        }

        void begin(int hands) {
            moment.begin(hands);
            known = 0;
        }

        void remember() {
            if (known >= STEPS) {
                dropOldest();
            }
            Moment.copy(moment, past[known]);
            known++;
        }

        boolean stepBack() {
            if (known <= 0 || known > STEPS) {
                return false;
            }
            known--;
            Moment.copy(past[known], moment);
            return true;
        }

        void become(Log from) {
            Moment.copy(from.moment, moment);
            known = from.known;
            for (int i = 0; i < STEPS; i++) {
                Moment.copy(from.past[i], past[i]);
            }
        }

        private void dropOldest() {
            Moment oldest = past[0];
            for (int i = 1; i < STEPS; i++) {
                past[i - 1] = past[i];
            }
            past[STEPS - 1] = oldest;
            known = STEPS - 1;
        }
    }

    /** What a sharing would bring to each, reckoned without doing it. */
    private static final class Sharing {
        final int[] gains = new int[HANDS];
        final int[] paid = new int[HANDS];
        int each = 0;
        int rest = 0;

        void reckon(Told told, Moment at) {
            each = 0;
            rest = at.chest;
            for (int h = 0; h < HANDS; h++) {
                gains[h] = 0;
                paid[h] = 0;
            }
            int parts = allParts(told, at);
            if (parts <= 0) {
                return;
            }
            payWounds(told, at);
            each = rest / parts;
            rest -= each * parts;
            for (int h = 0; h < HANDS; h++) {
                gains[h] += each * partOf(told, at, h);
            }
        }

        private void payWounds(Told told, Moment at) {
            for (int h = 0; h < HANDS; h++) {
                int payable = told.wound > 0 ? rest / told.wound : at.unpaid[h];
                paid[h] = Math.min(at.unpaid[h], payable);
                gains[h] = paid[h] * told.wound;
                rest -= gains[h];
            }
        }
    }

    /** The search for the way to give PIECES by which nobody is far from his due. */
    private static final class Dealing {
        final int[] best = new int[PIECES];
        int far = 0;
        private final int[] owner = new int[PIECES];
        // How far each is above what is due to him (below 0: under it), by what was given so far.
        private final int[] above = new int[HANDS];
        private int parts = 0;

        void reckon(Told told, Moment at) {
            int worth = 0;
            for (int p = 0; p < told.pieces; p++) {
                worth += told.worth[p];
            }
            parts = allParts(told, at);
            for (int h = 0; h < HANDS; h++) {
                above[h] = -partOf(told, at, h) * worth;
            }
            far = Integer.MAX_VALUE;
            give(told, at, 0);
        }

        private void give(Told told, Moment at, int p) {
            if (p < 0 || p >= told.pieces || p >= PIECES) {
                weigh(told.pieces);
                return;
            }
            int more = told.worth[p] * parts;
            for (int h = 0; h < HANDS; h++) {
                // What is given is never taken back, so whoever has too much now would have it then.
                if (at.hasAboard(h) && above[h] + more < far) {
                    above[h] += more;
                    owner[p] = h;
                    give(told, at, p + 1);
                    above[h] -= more;
                }
            }
        }

        private void weigh(int pieces) {
            int farthest = 0;
            for (int h = 0; h < HANDS; h++) {
                farthest = Math.max(farthest, Math.abs(above[h]));
            }
            if (farthest < far) {
                far = farthest;
                for (int p = 0; p < pieces && p < PIECES; p++) {
                    best[p] = owner[p];
                }
            }
        }
    }

    /** The search for the order of chases that brings most. */
    private static final class Raiding {
        final int[] best = new int[SHIPS];
        int most = 0;
        int unmet = 0;
        private final int[] order = new int[SHIPS];
        private int force = 0;
        private int weakest = 0;

        void reckon(Told told, Moment at) {
            force = forceOf(told, at, at.aboard);
            int h = weakestOf(told, at);
            weakest = at.hasAboard(h) ? strengthOf(told, at, h) : 0;
            unmet = told.ships - Integer.bitCount(at.met);
            most = -1;
            chaseNext(told, at.met, 0, 0, 0);
        }

        private void chaseNext(Told told, int met, int place, int lost, int gold) {
            if (place < 0 || place >= unmet || place >= SHIPS) {
                weigh(gold);
                return;
            }
            // Who is wounded once is weakest from then on: FORCE falls by his strength and no more.
            int left = force - Math.min(lost, weakest);
            for (int s = 0; s < told.ships; s++) {
                if (!isIn(met, s)) {
                    order[place] = s;
                    boolean taken = left >= told.guns[s];
                    int lostThen = taken ? lost : lost + 1;
                    int goldThen = taken ? gold + told.gold[s] : gold;
                    chaseNext(told, met | 1 << s, place + 1, lostThen, goldThen);
                }
            }
        }

        private void weigh(int gold) {
            if (gold > most) {
                most = gold;
                for (int i = 0; i < unmet && i < SHIPS; i++) {
                    best[i] = order[i];
                }
            }
        }
    }
}
