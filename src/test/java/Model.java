import java.math.BigInteger;
import java.util.ArrayList;
import java.util.Arrays;
import java.util.List;
import java.util.NoSuchElementException;
import java.util.Set;
import java.util.TreeSet;

/**
 * A second, slow house, written from the document's words alone: it lists every spot, pairs promises with rooms by a
 * search, makes the whole plan anew for each question and tries every cut of a wish by recursion.
 */
final class Model {
    static final class Spot {
        int code;
        int kind; // 0 to 3 as a room's, 4 a suite
        int[] units; // place * 8 + bed
        int[] places;
    }

    static final class Guest {
        int state;
        int want;
        int people;
        int from;
        int to;
        int till;
        long price;
        int[] had = new int[60];
    }

    final int[] kind = new int[16]; // -1 nothing, 4 a store
    final int[] floor = new int[16];
    final int[] beds = new int[16];
    final int[] length = new int[16];
    final boolean[] closed = new boolean[16];
    final boolean[][] shut = new boolean[16][60];
    final int[] door = new int[16];
    final List<Guest> guests = new ArrayList<>();
    final int[][] prices = new int[5][60];
    final List<int[]> rules = new ArrayList<>(); // sort, n, percentage, 1 while it holds
    int day;
    int over;

    Model() {
        for (int p = 0; p < 16; p++) {
            kind[p] = -1;
            door[p] = -1;
        }
    }

    boolean isRoom(int p) {
        return p >= 0 && p < 16 && kind[p] >= 0 && kind[p] <= 3;
    }

    boolean room(int p, int k, int f, int b, int nights) {
        if (p < 0 || p > 15 || kind[p] != -1 || k < 0 || k > 3 || f < 0 || f > 9 || nights < 0 || nights > 60) {
            return false;
        }
        if (k == 3 && (b < 2 || b > 6)) {
            return false;
        }
        kind[p] = k;
        floor[p] = f;
        beds[p] = k == 0 ? 1 : k == 3 ? b : 2;
        length[p] = nights;
        return true;
    }

    boolean store(int p) {
        if (p < 0 || p > 15 || kind[p] != -1) {
            return false;
        }
        kind[p] = 4;
        return true;
    }

    boolean door(int p) {
        if (p < 0 || p > 14 || kind[p] != 1 || kind[p + 1] != 1 || floor[p] != floor[p + 1]) {
            return false;
        }
        if (door[p] != -1 || door[p + 1] != -1) {
            return false;
        }
        door[p] = p + 1;
        door[p + 1] = p;
        return true;
    }

    int shut(int p, int from, int to, boolean on) {
        if (!isRoom(p) || closed[p] || from < 0 || to < from || to > 60) {
            return -1;
        }
        int sum = 0;
        for (int n = from; n < to && n < length[p]; n++) {
            if (shut[p][n] != on) {
                shut[p][n] = on;
                sum++;
            }
        }
        return sum;
    }

    int open(int p, int more) {
        if (!isRoom(p) || more < 0 || more > 60) {
            return -1;
        }
        int begin = closed[p] ? 0 : length[p];
        if (begin + more > 60) {
            return -1;
        }
        for (int n = begin; n < begin + more; n++) {
            shut[p][n] = false;
        }
        closed[p] = false;
        length[p] = begin + more;
        return length[p];
    }

    boolean close(int p) {
        if (!isRoom(p) || closed[p]) {
            return false;
        }
        closed[p] = true;
        return true;
    }

    int look(int p, int what) {
        if (p < 0 || p > 15) {
            return -2;
        }
        if (what == 0) {
            return kind[p];
        }
        if (!isRoom(p)) {
            return -1;
        }
        return what == 1 ? floor[p] : what == 2 ? beds[p] : what == 3 ? door[p] : -1;
    }

    int night(int p, int n) {
        if (n < 0 || n > 59) {
            return -4;
        }
        if (!isRoom(p)) {
            return -3;
        }
        return closed[p] ? -2 : n >= length[p] ? -1 : shut[p][n] ? 0 : 1;
    }

    // ---- spots and what can be kept

    List<Spot> openSpots(int n) {
        List<Spot> all = new ArrayList<>();
        for (int p = 0; p < 16; p++) {
            if (night(p, n) != 1) {
                continue;
            }
            for (int b = 0; b < (kind[p] == 3 ? beds[p] : 1); b++) {
                Spot one = new Spot();
                one.code = 32 * p + 4 * b;
                one.kind = kind[p];
                one.units = new int[] {p * 8 + b};
                one.places = new int[] {p};
                all.add(one);
            }
            if (door[p] == p + 1 && night(p + 1, n) == 1) {
                Spot suite = new Spot();
                suite.code = 32 * p + 1;
                suite.kind = 4;
                suite.units = new int[] {p * 8, (p + 1) * 8};
                suite.places = new int[] {p, p + 1};
                all.add(suite);
            }
        }
        return all;
    }

    static boolean suits(int want, int spotKind) {
        switch (want) {
            case 0: return spotKind == 3;
            case 1: return spotKind == 0 || spotKind == 1 || spotKind == 2;
            case 2: return spotKind == 1 || spotKind == 2;
            case 3: return spotKind == 2;
            case 4: return spotKind == 4;
            default: return false;
        }
    }

    static boolean clear(Spot spot, boolean[] used) {
        for (int u : spot.units) {
            if (used[u]) {
                return false;
            }
        }
        return true;
    }

    static void mark(Spot spot, boolean[] used, boolean on) {
        for (int u : spot.units) {
            used[u] = on;
        }
    }

    /** The most of these wants that can be kept together, tried over every choice of suites. */
    static int most(List<Integer> wants, List<Spot> spots, boolean[] used) {
        List<Spot> suites = new ArrayList<>();
        for (Spot s : spots) {
            if (s.kind == 4 && clear(s, used)) {
                suites.add(s);
            }
        }
        int wanted = 0;
        List<Integer> others = new ArrayList<>();
        for (int w : wants) {
            if (w == 4) {
                wanted++;
            } else {
                others.add(w);
            }
        }
        int best = -1;
        for (int set = 0; set < 1 << suites.size(); set++) {
            int size = Integer.bitCount(set);
            if (size > wanted) {
                continue;
            }
            boolean[] now = used.clone();
            for (int i = 0; i < suites.size(); i++) {
                if ((set >> i & 1) == 1) {
                    mark(suites.get(i), now, true);
                }
            }
            best = Math.max(best, size + pairing(others, spots, now));
            if (best == wants.size()) {
                break;
            }
        }
        return best;
    }

    static int pairing(List<Integer> wants, List<Spot> spots, boolean[] used) {
        int[] hadBy = new int[spots.size()];
        Arrays.fill(hadBy, -1);
        int sum = 0;
        for (int i = 0; i < wants.size(); i++) {
            if (augment(i, wants, spots, used, hadBy, new boolean[spots.size()])) {
                sum++;
            }
        }
        return sum;
    }

    static boolean augment(int i, List<Integer> wants, List<Spot> spots, boolean[] used, int[] hadBy, boolean[] seen) {
        for (int s = 0; s < spots.size(); s++) {
            if (seen[s] || !suits(wants.get(i), spots.get(s).kind) || !clear(spots.get(s), used)) {
                continue;
            }
            seen[s] = true;
            if (hadBy[s] == -1 || augment(hadBy[s], wants, spots, used, hadBy, seen)) {
                hadBy[s] = i;
                return true;
            }
        }
        return false;
    }

    static boolean allKept(List<Integer> wants, List<Spot> spots, boolean[] used) {
        return most(wants, spots, used) == wants.size();
    }

    boolean stands(Guest g) {
        return g.state <= 2;
    }

    boolean wantsNight(Guest g, int n) {
        return g.from <= n && n < g.to;
    }

    int shortOf(int n, int moreWant, int leftOut) {
        List<Integer> wants = new ArrayList<>();
        for (int q = 0; q < guests.size(); q++) {
            Guest g = guests.get(q);
            if (q != leftOut && stands(g) && wantsNight(g, n)) {
                wants.add(g.want);
            }
        }
        if (moreWant != -1) {
            wants.add(moreWant);
        }
        return wants.size() - most(wants, openSpots(n), new boolean[128]);
    }

    // ---- the plan

    /** The spot of each promise in night n, given those of the night before. */
    int[] planNight(int n, int[] before) {
        List<Spot> spots = openSpots(n);
        boolean[] used = new boolean[128];
        List<Integer> kept = new ArrayList<>();
        List<Integer> keptWants = new ArrayList<>();
        for (int state = 2; state >= 0; state--) {
            for (int q = 0; q < guests.size(); q++) {
                Guest g = guests.get(q);
                if (g.state != state || !wantsNight(g, n)) {
                    continue;
                }
                keptWants.add(g.want);
                if (allKept(keptWants, spots, used)) {
                    kept.add(q);
                } else {
                    keptWants.remove(keptWants.size() - 1);
                }
            }
        }
        kept.sort(null);
        int[] has = new int[guests.size()];
        Arrays.fill(has, -1);
        for (int q : kept) {
            if (before[q] == -1) {
                continue;
            }
            for (Spot s : spots) {
                if (s.code == before[q] && takes(q, s, kept, has, spots, used)) {
                    break;
                }
            }
        }
        for (int q : kept) {
            if (has[q] != -1) {
                continue;
            }
            for (Spot s : spots) {
                if (takes(q, s, kept, has, spots, used)) {
                    break;
                }
            }
            if (has[q] == -1) {
                throw new AssertionError("kept, and no spot");
            }
        }
        return has;
    }

    boolean takes(int q, Spot s, List<Integer> kept, int[] has, List<Spot> spots, boolean[] used) {
        if (!suits(guests.get(q).want, s.kind) || !clear(s, used)) {
            return false;
        }
        mark(s, used, true);
        List<Integer> left = new ArrayList<>();
        for (int other : kept) {
            if (other != q && has[other] == -1) {
                left.add(guests.get(other).want);
            }
        }
        if (allKept(left, spots, used)) {
            has[q] = s.code;
            return true;
        }
        mark(s, used, false);
        return false;
    }

    int[] spotsHad(int n) {
        int[] row = new int[guests.size()];
        for (int q = 0; q < row.length; q++) {
            row[q] = n < 0 ? -1 : guests.get(q).had[n];
        }
        return row;
    }

    /** Spots by night and promise, up to and with night last. */
    int[][] table(int last) {
        int[][] all = new int[60][];
        for (int n = 0; n <= last; n++) {
            all[n] = n < day ? spotsHad(n) : planNight(n, n == 0 ? spotsHad(-1) : all[n - 1]);
        }
        return all;
    }

    int[] nightSpots(int n) {
        return table(n)[n];
    }

    // ---- promises

    static final int[] MOST_PEOPLE = {1, 1, 2, 2, 4};

    boolean isWish(int want, int from, int to) {
        return want >= 0 && want <= 4 && from >= day && to > from && to <= 60;
    }

    int refusal(int want, int people, int from, int to, int leftOut) {
        if (!isWish(want, from, to) || people < 1 || people > MOST_PEOPLE[want]) {
            return 1;
        }
        if (least(want, from, to, 0) == -1) {
            return 2;
        }
        for (int n = from; n < to; n++) {
            if (shortOf(n, want, leftOut) > over) {
                return 3;
            }
        }
        return leftOut == -1 && guests.size() == 40 ? 4 : 0;
    }

    int can(int want, int people, int from, int to) {
        return refusal(want, people, from, to, -1);
    }

    int promise(int want, int people, int from, int to, int till) {
        int no = can(want, people, from, to);
        if (no == 0 && till != -1 && till < day) {
            no = 5;
        }
        if (no != 0) {
            return -1 - no;
        }
        Guest g = new Guest();
        g.state = till == -1 ? 1 : 0;
        g.want = want;
        g.people = people;
        g.from = from;
        g.to = to;
        g.till = till;
        g.price = least(want, from, to, 0);
        Arrays.fill(g.had, -1);
        guests.add(g);
        return guests.size() - 1;
    }

    Guest at(int q) {
        return q >= 0 && q < guests.size() ? guests.get(q) : null;
    }

    boolean firm(int q) {
        Guest g = at(q);
        if (g == null || g.state != 0) {
            return false;
        }
        g.state = 1;
        return true;
    }

    boolean cancel(int q) {
        Guest g = at(q);
        if (g == null || g.state > 1) {
            return false;
        }
        g.state = 4;
        return true;
    }

    int change(int q, int from, int to) {
        Guest g = at(q);
        if (g == null || g.state > 1) {
            return 6;
        }
        int no = refusal(g.want, g.people, from, to, q);
        if (no == 0) {
            g.from = from;
            g.to = to;
            g.price = least(g.want, from, to, 0);
        }
        return no;
    }

    boolean come(int q) {
        Guest g = at(q);
        if (g == null || g.state > 1 || g.from != day) {
            return false;
        }
        g.state = 2;
        return true;
    }

    int next() {
        if (day == 59) {
            return -1;
        }
        for (Guest g : guests) {
            if (g.state <= 1 && wantsNight(g, day)) {
                g.state = 6;
            }
        }
        int[] now = nightSpots(day);
        int walked = 0;
        for (int q = 0; q < guests.size(); q++) {
            Guest g = guests.get(q);
            if (g.state == 2 && wantsNight(g, day)) {
                if (now[q] == -1) {
                    g.state = 7;
                    walked++;
                } else {
                    g.had[day] = now[q];
                }
            }
        }
        day++;
        for (Guest g : guests) {
            if (g.state == 2 && g.to == day) {
                g.state = 3;
            }
            if (g.state == 0 && g.till < day) {
                g.state = 5;
            }
        }
        return walked;
    }

    long promised(int q, int what) {
        Guest g = at(q);
        if (g == null || what < 0 || what > 8) {
            throw new NoSuchElementException();
        }
        int nights = 0;
        int moved = 0;
        for (int n = 0; n < day; n++) {
            if (g.had[n] != -1) {
                nights++;
                moved += n > 0 && g.had[n - 1] != -1 && g.had[n - 1] != g.had[n] ? 1 : 0;
            }
        }
        return new long[] {g.state, g.want, g.people, g.from, g.to, g.till, g.price, nights, moved}[what];
    }

    int spot(int q, int n) {
        return at(q) == null || n < 0 || n > 59 ? -1 : nightSpots(n)[q];
    }

    int moves() {
        int[][] all = table(59);
        int sum = 0;
        for (int n = Math.max(day, 1); n < 60; n++) {
            for (int q = 0; q < guests.size(); q++) {
                int a = all[n - 1][q];
                int b = all[n][q];
                sum += a != -1 && b != -1 && a != b ? 1 : 0;
            }
        }
        return sum;
    }

    int floors(int a, int b, int n) {
        if (n < 0 || n > 59) {
            return 0;
        }
        int[] now = nightSpots(n);
        Set<Integer> seen = new TreeSet<>();
        for (int q = 0; q < now.length; q++) {
            if (a <= q && q <= b && now[q] != -1) {
                seen.add(floor[now[q] / 32]);
            }
        }
        return seen.size();
    }

    int lacks(int n) {
        return n < day || n > 59 ? -1 : shortOf(n, -1, -1);
    }

    int rooms(int k, int n, int what) {
        if (k < 0 || k > 3 || n < 0 || n > 59 || what < 0 || what > 1) {
            return -1;
        }
        int[] now = nightSpots(n);
        int sum = 0;
        for (Spot s : openSpots(n)) {
            if (s.kind != k) {
                continue;
            }
            boolean had = false;
            for (int code : now) {
                had |= code == s.code || code != -1 && code % 4 == 1 && k == 1
                    && (code / 32 == s.code / 32 || code / 32 + 1 == s.code / 32);
            }
            sum += what == 0 || had ? 1 : 0;
        }
        return sum;
    }

    boolean over(int k) {
        if (k < 0 || k > 40) {
            return false;
        }
        over = k;
        return true;
    }

    // ---- prices

    boolean price(int want, int from, int to, int amount) {
        if (want < 0 || want > 4 || from < 0 || to < from || to > 60 || amount < 0 || amount > 1000000) {
            return false;
        }
        for (int n = from; n < to; n++) {
            prices[want][n] = amount;
        }
        return true;
    }

    int rule(int sort, int n, int percentage) {
        if (rules.size() == 8 || sort < 0 || sort > 2) {
            return -1;
        }
        if (sort == 2 ? n < 0 || n > 58 : n < 1 || n > 60 || percentage < -100 || percentage > 300) {
            return -1;
        }
        rules.add(new int[] {sort, n, percentage, 1});
        return rules.size() - 1;
    }

    boolean drop(int k) {
        if (k < 0 || k >= rules.size() || rules.get(k)[3] == 0) {
            return false;
        }
        rules.get(k)[3] = 0;
        return true;
    }

    long cost(int want, int from, int to) {
        if (!isWish(want, from, to)) {
            return -1;
        }
        BigInteger sum = BigInteger.ZERO;
        for (int n = from; n < to; n++) {
            sum = sum.add(BigInteger.valueOf(prices[want][n]));
        }
        long percent = 100;
        for (int[] r : rules) {
            if (r[3] == 0) {
                continue;
            }
            if (r[0] == 2) {
                boolean wantsIt = from <= r[1] && r[1] < to;
                boolean wantsNext = from <= r[1] + 1 && r[1] + 1 < to;
                if (wantsIt && !wantsNext) {
                    return -1;
                }
            } else if (r[0] == 0 ? to - from >= r[1] : from - day >= r[1]) {
                percent += r[2];
            }
        }
        if (percent < 0) {
            return 0;
        }
        return sum.multiply(BigInteger.valueOf(percent)).divide(BigInteger.valueOf(100)).longValue();
    }

    long least(int want, int from, int to, int what) {
        if (!isWish(want, from, to) || what < 0 || what > 1) {
            return -1;
        }
        long[] best = cut(want, from, to, new long[61][]);
        return best[0] == -1 ? -1 : best[what];
    }

    /** The least cost and fewest parts of from .. to - 1, by its first part; known answers are kept by from. */
    long[] cut(int want, int from, int to, long[][] known) {
        if (from == to) {
            return new long[] {0, 0};
        }
        if (known[from] != null) {
            return known[from];
        }
        long[] best = {-1, -1};
        for (int mid = from + 1; mid <= to; mid++) {
            long first = cost(want, from, mid);
            long[] rest = cut(want, mid, to, known);
            if (first == -1 || rest[0] == -1) {
                continue;
            }
            long sum = first + rest[0];
            long parts = 1 + rest[1];
            if (best[0] == -1 || sum < best[0] || sum == best[0] && parts < best[1]) {
                best = new long[] {sum, parts};
            }
        }
        known[from] = best;
        return best;
    }

    int count(int what) {
        int sum = 0;
        switch (what) {
            case 0: return day;
            case 1:
                for (int p = 0; p < 16; p++) {
                    sum += isRoom(p) ? 1 : 0;
                }
                return sum;
            case 2:
                for (int p = 0; p < 16; p++) {
                    sum += kind[p] == 4 ? 1 : 0;
                }
                return sum;
            case 3:
                for (int p = 0; p < 16; p++) {
                    sum += door[p] != -1 ? 1 : 0;
                }
                return sum / 2;
            case 4: return guests.size();
            case 5:
                for (Guest g : guests) {
                    sum += stands(g) ? 1 : 0;
                }
                return sum;
            case 6: return over;
            case 7:
                for (int[] r : rules) {
                    sum += r[3];
                }
                return sum;
            default: return -1;
        }
    }
}
