import java.math.BigInteger;
import java.util.ArrayList;
import java.util.List;
import java.util.TreeSet;
import java.util.regex.Matcher;
import java.util.regex.Pattern;

/**
 * The document once more, in another way than the class: whole states are copied, every order and
 * every way is tried by doing it. Slow, but each answer stands close to the document's words.
 */
final class Oracle {
    static final int BAD = -1, STATE = -2, FULL = -3, NONE = -9, NO = -1000000;
    private static final Pattern TOKEN = Pattern.compile("\\G *(?:([a-z]+)|([0-9]+)|(;)|([^ ]))", Pattern.DOTALL);

    /** Who and what there is, as a text tells it. */
    static final class Crew {
        final List<int[]> hands = new ArrayList<>();
        final List<TreeSet<Integer>> likes = new ArrayList<>();
        final List<int[]> ships = new ArrayList<>();
        final List<Integer> pieces = new ArrayList<>();
        Integer wound = null;

        int wound() {
            return wound == null ? 10 : wound;
        }
    }

    /** NOW. */
    static final class State {
        final TreeSet<Integer> aboard = new TreeSet<>();
        int captain = NONE;
        int chest = 0;
        final int[] coins = new int[6], wounded = new int[6], unpaid = new int[6], hid = new int[6],
            pistols = new int[6], met = new int[5];

        State copy() {
            State other = new State();
            other.aboard.addAll(aboard);
            other.captain = captain;
            other.chest = chest;
            System.arraycopy(coins, 0, other.coins, 0, 6);
            System.arraycopy(wounded, 0, other.wounded, 0, 6);
            System.arraycopy(unpaid, 0, other.unpaid, 0, 6);
            System.arraycopy(hid, 0, other.hid, 0, 6);
            System.arraycopy(pistols, 0, other.pistols, 0, 6);
            System.arraycopy(met, 0, other.met, 0, 5);
            return other;
        }
    }

    private final StringBuilder text = new StringBuilder();
    private Crew crew = new Crew();
    private State now = new State();
    private List<State> past = new ArrayList<>();
    private final State[] imageNow = new State[2];
    private final List<List<State>> imagePast = new ArrayList<>(List.of(List.of(), List.of()));
    private final List<int[]> sights = new ArrayList<>();
    private long trace = 0;

    int type(int c) {
        if (c < 0 || c > 255) return BAD;
        if (text.length() == 150) return FULL;
        text.append((char) c);
        return text.length();
    }

    int clear() {
        int had = text.length();
        text.setLength(0);
        return had;
    }

    int articles() {
        Crew told = new Crew();
        List<String> tokens = new ArrayList<>();
        List<Integer> places = new ArrayList<>();
        Matcher matcher = TOKEN.matcher(text);
        while (matcher.find()) {
            String token = matcher.group().replaceFirst("^ *", "");
            tokens.add(token);
            places.add(matcher.end() - token.length());
        }
        int i = 0, items = 0;
        while (i < tokens.size()) {
            List<int[]> ranges = rangesOf(tokens.get(i), told);
            if (ranges == null) return -10 - places.get(i);
            String letter = tokens.get(i++);
            List<Integer> numbers = new ArrayList<>();
            for (int[] range : ranges) {
                if (i == tokens.size()) return -10 - text.length();
                int n = number(tokens.get(i));
                if (n < range[0] || n > range[1] || letter.equals("l") && numbers.contains(n)) return -10 - places.get(i);
                numbers.add(n);
                i++;
            }
            if (i == tokens.size()) return -10 - text.length();
            if (!tokens.get(i).equals(";")) return -10 - places.get(i);
            i++;
            items++;
            add(letter, numbers, told);
        }
        crew = told;
        text.setLength(0);
        now = new State();
        for (int h = 0; h < crew.hands.size(); h++) now.aboard.add(h);
        now.captain = crew.hands.isEmpty() ? NONE : 0;
        past = new ArrayList<>();
        imageNow[0] = imageNow[1] = null;
        sights.clear();
        return items;
    }

    private static List<int[]> rangesOf(String letter, Crew told) {
        int known = told.hands.size() - 1;
        switch (letter) {
            case "h": return told.hands.size() == 6 ? null : List.of(new int[] {1, 9}, new int[] {0, 9}, new int[] {0, 9});
            case "l": return List.of(new int[] {0, known}, new int[] {0, known});
            case "s": return told.ships.size() == 5 ? null : List.of(new int[] {0, 60}, new int[] {0, 99});
            case "p": return told.pieces.size() == 5 ? null : List.of(new int[] {1, 99});
            case "w": return told.wound != null ? null : List.of(new int[] {0, 50});
            default: return null;
        }
    }

    private static int number(String token) {
        return token.matches("0|[1-9][0-9]?") ? Integer.parseInt(token) : -1;
    }

    private static void add(String letter, List<Integer> n, Crew told) {
        switch (letter) {
            case "h":
                told.hands.add(new int[] {n.get(0), n.get(1), n.get(2)});
                told.likes.add(new TreeSet<>());
                break;
            case "l": told.likes.get(n.get(0)).add(n.get(1)); break;
            case "s": told.ships.add(new int[] {n.get(0), n.get(1)}); break;
            case "p": told.pieces.add(n.get(0)); break;
            default: told.wound = n.get(0);
        }
    }

    private boolean noHand(int h) {
        return h < 0 || h >= crew.hands.size();
    }

    private boolean noShip(int s) {
        return s < 0 || s >= crew.ships.size();
    }

    private static int bits(Iterable<Integer> set) {
        int bits = 0;
        for (int i : set) bits |= 1 << i;
        return bits;
    }

    int hand(int h, int what) {
        if (noHand(h) || what < 0 || what > 9) return BAD;
        int[] rest = {bits(crew.likes.get(h)), now.aboard.contains(h) ? 1 : 0, now.coins[h], now.wounded[h],
            now.unpaid[h], now.hid[h], now.pistols[h]};
        return what < 3 ? crew.hands.get(h)[what] : rest[what - 3];
    }

    int ship(int s, int what) {
        if (noShip(s) || what < 0 || what > 2) return BAD;
        return what < 2 ? crew.ships.get(s)[what] : now.met[s];
    }

    int piece(int p) {
        return p < 0 || p >= crew.pieces.size() ? BAD : crew.pieces.get(p);
    }

    private int strength(State state, int h) {
        int left = crew.hands.get(h)[1] - state.wounded[h];
        return left < 0 ? 0 : left;
    }

    private int force(State state) {
        int sum = 0;
        for (int h : state.aboard) sum += strength(state, h);
        return sum;
    }

    private int part(State state, int h) {
        return crew.hands.get(h)[0] * (state.captain == h ? 2 : 1);
    }

    private int parts(State state) {
        int sum = 0;
        for (int h : state.aboard) sum += part(state, h);
        return sum;
    }

    private void step() {
        past.add(now.copy());
        if (past.size() > 10) past.remove(0);
    }

    private int chase(State state, int s) {
        int[] ship = crew.ships.get(s);
        int answer = -5;
        if (force(state) >= ship[0]) {
            state.chest += ship[1];
            state.met[s] = 1;
            answer = ship[1];
        } else {
            state.met[s] = 2;
            Integer weakest = null;
            for (int h : state.aboard) {
                if (weakest == null || strength(state, h) < strength(state, weakest)) weakest = h;
            }
            if (weakest != null) {
                state.wounded[weakest]++;
                state.unpaid[weakest]++;
            }
        }
        Integer sharpest = null;
        for (int h : state.aboard) {
            if (sharpest == null || crew.hands.get(h)[2] > crew.hands.get(sharpest)[2]) sharpest = h;
        }
        if (sharpest != null) state.pistols[sharpest]++;
        return answer;
    }

    int chases(int s) {
        if (noShip(s)) return BAD;
        if (now.met[s] != 0) return STATE;
        step();
        return chase(now, s);
    }

    private int share(State state) {
        paying:
        for (int h = 0; h < crew.hands.size(); h++) {
            while (state.unpaid[h] > 0) {
                if (state.chest < crew.wound()) break paying;
                state.chest -= crew.wound();
                state.coins[h] += crew.wound();
                state.unpaid[h]--;
            }
        }
        int all = parts(state), each = 0;
        while (state.chest >= all) {
            state.chest -= all;
            each++;
            for (int h : state.aboard) state.coins[h] += part(state, h);
        }
        return each;
    }

    int shares() {
        if (now.aboard.isEmpty()) return STATE;
        step();
        return share(now);
    }

    private int voices(int h) {
        int voices = 1;
        for (int other : now.aboard) if (crew.likes.get(other).contains(h)) voices++;
        return voices;
    }

    int votes(int h) {
        if (noHand(h)) return BAD;
        if (!now.aboard.contains(h) || now.captain == h) return STATE;
        step();
        if (voices(h) > now.aboard.size() / 2.0) now.captain = h;
        return now.captain;
    }

    int maroons(int h) {
        if (noHand(h)) return BAD;
        if (!now.aboard.contains(h)) return STATE;
        step();
        now.aboard.remove(h);
        if (now.captain == h) now.captain = now.aboard.isEmpty() ? NONE : now.aboard.first();
        return now.aboard.size();
    }

    int hides(int h, int n) {
        if (noHand(h) || n < 1 || n > 99) return BAD;
        if (!now.aboard.contains(h) || now.chest < n) return STATE;
        step();
        now.chest -= n;
        return now.hid[h] += n;
    }

    int finds(int h) {
        if (noHand(h)) return BAD;
        if (now.hid[h] == 0) return STATE;
        step();
        int found = now.hid[h];
        now.chest += found;
        now.hid[h] = 0;
        now.wounded[h]++;
        return found;
    }

    int undo() {
        if (past.isEmpty()) return STATE;
        now = past.remove(past.size() - 1);
        return past.size();
    }

    int now(int what) {
        TreeSet<Integer> set = new TreeSet<>();
        switch (what) {
            case 0: return now.chest;
            case 1: return now.captain;
            case 2: return bits(now.aboard);
            case 3: return force(now);
            case 4: return parts(now);
            case 5:
                for (int s = 0; s < 5; s++) if (now.met[s] != 0) set.add(s);
                return bits(set);
            case 6:
                for (int h : now.aboard) if (voices(h) > now.aboard.size() / 2.0) set.add(h);
                return bits(set);
            default: return BAD;
        }
    }

    int due(int h) {
        if (noHand(h)) return BAD;
        if (now.aboard.isEmpty()) return 0;
        State then = now.copy();
        share(then);
        return then.coins[h] - now.coins[h];
    }

    int holds(int n) {
        if (n < 0 || n > 99) return BAD;
        TreeSet<Integer> set = new TreeSet<>();
        for (int h : now.aboard) if (due(h) >= n) set.add(h);
        return bits(set);
    }

    int deal(int p) {
        if (p < -1 || p >= crew.pieces.size()) return BAD;
        if (now.aboard.isEmpty()) return NONE;
        List<Integer> who = new ArrayList<>(now.aboard);
        int pieces = crew.pieces.size(), ways = (int) Math.pow(who.size(), pieces);
        int all = parts(now), worth = 0, least = Integer.MAX_VALUE;
        for (int w : crew.pieces) worth += w;
        int[] best = null;
        for (int way = 0; way < ways; way++) {
            int[] owners = new int[pieces], given = new int[6];
            for (int i = pieces - 1, rest = way; i >= 0; i--, rest /= who.size()) {
                owners[i] = who.get(rest % who.size());
                given[owners[i]] += crew.pieces.get(i);
            }
            int far = 0;
            for (int h : who) far = Math.max(far, Math.abs(given[h] * all - part(now, h) * worth));
            if (far < least) {
                least = far;
                best = owners;
            }
        }
        return p == -1 ? least : best[p];
    }

    private void orders(List<Integer> order, List<Integer> left, List<List<Integer>> all) {
        if (left.isEmpty()) all.add(order);
        for (Integer s : left) {
            List<Integer> longer = new ArrayList<>(order), fewer = new ArrayList<>(left);
            longer.add(s);
            fewer.remove(s);
            orders(longer, fewer, all);
        }
    }

    int raid(int i) {
        if (i < -1 || i > 4) return BAD;
        List<Integer> left = new ArrayList<>();
        for (int s = 0; s < crew.ships.size(); s++) if (now.met[s] == 0) left.add(s);
        List<List<Integer>> all = new ArrayList<>();
        orders(List.of(), left, all);
        int most = -1;
        List<Integer> best = null;
        for (List<Integer> order : all) {
            State then = now.copy();
            for (int s : order) chase(then, s);
            if (then.chest - now.chest > most) {
                most = then.chest - now.chest;
                best = order;
            }
        }
        return i == -1 ? most : i < best.size() ? best.get(i) : NONE;
    }

    private BigInteger chance(List<Integer> who, int i, int force, int guns, int x) {
        if (i == who.size()) return force >= guns ? BigInteger.ONE : BigInteger.ZERO;
        BigInteger sick = chance(who, i + 1, force, guns, x).multiply(BigInteger.valueOf(x));
        int more = force + strength(now, who.get(i));
        return sick.add(chance(who, i + 1, more, guns, x).multiply(BigInteger.valueOf(10 - x)));
    }

    int odds(int s, int x, int what) {
        if (noShip(s) || x < 0 || x > 10 || what < 0 || what > 1) return BAD;
        BigInteger upper = chance(new ArrayList<>(now.aboard), 0, 0, crew.ships.get(s)[0], x);
        BigInteger lower = BigInteger.TEN.pow(now.aboard.size());
        BigInteger by = upper.gcd(lower);
        return (what == 0 ? upper : lower).divide(by).intValueExact();
    }

    int won(int h) {
        if (noHand(h)) return BAD;
        if (!now.aboard.contains(h)) return NONE;
        int more = 0;
        while ((voices(h) + more) * 2 <= now.aboard.size()) more++;
        return more;
    }

    int split(int what) {
        if (what < 0 || what > 1) return BAD;
        int sets = 0, first = NONE;
        for (int set = 0; set < 64 && !now.aboard.isEmpty(); set++) {
            TreeSet<Integer> here = new TreeSet<>(), there = new TreeSet<>(now.aboard);
            for (int h = 0; h < 6; h++) if ((set >> h & 1) == 1) here.add(h);
            if (!now.aboard.containsAll(here) || !here.contains(now.aboard.first())) continue;
            there.removeAll(here);
            if (content(here, there) && content(there, here)) {
                sets++;
                if (first == NONE) first = set;
            }
        }
        return what == 0 ? sets : first;
    }

    private boolean content(TreeSet<Integer> own, TreeSet<Integer> other) {
        for (int h : own) {
            int difference = 0;
            for (int liked : crew.likes.get(h)) difference += own.contains(liked) ? 1 : other.contains(liked) ? -1 : 0;
            if (difference < 0) return false;
        }
        return true;
    }

    int band(int h) {
        if (noHand(h)) return BAD;
        TreeSet<Integer> set = new TreeSet<>(crew.likes.get(h));
        set.retainAll(now.aboard);
        set.removeIf(other -> !crew.likes.get(other).contains(h));
        return bits(set);
    }

    int saw(int set, int h) {
        if (set <= 0 || set >= Math.pow(2, crew.hands.size()) || noHand(h) || (set >> h & 1) == 0) return BAD;
        if (sights.size() == 6) return FULL;
        sights.add(new int[] {set, h});
        return sights.size();
    }

    int forget() {
        int had = sights.size();
        sights.clear();
        return had;
    }

    int keen() {
        TreeSet<Integer> set = new TreeSet<>();
        for (int h = 0; h < crew.hands.size(); h++) {
            boolean outdone = false;
            for (int[] told : sights) outdone |= (told[0] >> h & 1) == 1 && told[1] != h;
            if (!outdone) set.add(h);
        }
        return bits(set);
    }

    int mark(int kind, int h) {
        if (kind < 0 || kind > 5 || noHand(h)) return NO;
        int[] above = {-1, 0, 0, 1, 2, 0};
        trace += (long) Math.pow(10, kind);
        int up = above[kind] < 0 ? 0 : mark(above[kind], h);
        int[] hand = crew.hands.get(h);
        int[] marks = {hand[0], up + hand[1], up - now.wounded[h], up * 2, up + hand[2], up + now.pistols[h]};
        return marks[kind];
    }

    private static List<State> copies(List<State> states) {
        List<State> copies = new ArrayList<>();
        for (State state : states) copies.add(state.copy());
        return copies;
    }

    int keep(int image) {
        if (image < 0 || image > 1) return BAD;
        imageNow[image] = now.copy();
        imagePast.set(image, copies(past));
        return now.chest;
    }

    int back(int image) {
        if (image < 0 || image > 1) return BAD;
        if (imageNow[image] == null) return STATE;
        now = imageNow[image].copy();
        past = copies(imagePast.get(image));
        return now.chest;
    }

    int count(int what) {
        int[] counts = {crew.hands.size(), crew.ships.size(), crew.pieces.size(), crew.wound(), sights.size(),
            past.size(), text.length()};
        return what < 0 || what > 6 ? BAD : counts[what];
    }

    long trace() {
        return trace;
    }
}
