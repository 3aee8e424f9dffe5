import java.util.ArrayList;
import java.util.Arrays;
import java.util.HashMap;
import java.util.HashSet;
import java.util.List;
import java.util.Map;
import java.util.NoSuchElementException;
import java.util.Set;
import java.util.TreeSet;

/**
 * The document word by word, with little thought of speed: rows are tried station by station from
 * the first on, orders as permutations, the clock round by round. It shares no way of working with
 * the class.
 */
final class Model {
    static final Set<String> OWN = new HashSet<>(Arrays.asList(
        "channels", "station", "at", "reach", "on", "worth", "not", "border"));

    static final class Station {
        String name;
        int x, y, reach, channel, worth;
        boolean air = true;
        TreeSet<Integer> banned = new TreeSet<>();

        Station copy() {
            Station s = new Station();
            s.name = name; s.x = x; s.y = y; s.reach = reach; s.channel = channel; s.worth = worth; s.air = air;
            s.banned = new TreeSet<>(banned);
            return s;
        }
    }

    static final class Border {
        int x, y, reach;
        TreeSet<Integer> not = new TreeSet<>();
    }

    static final class Scene {
        List<Station> stations = new ArrayList<>();
        int paid;

        Scene copy() {
            Scene c = new Scene();
            for (Station s : stations) c.stations.add(s.copy());
            c.paid = paid;
            return c;
        }
    }

    private final List<Integer> tape = new ArrayList<>();
    private boolean hasText;
    private int channels;
    private Scene now = new Scene();
    private List<Border> borders = new ArrayList<>();
    private final List<Scene> acts = new ArrayList<>();
    private final Scene[] images = new Scene[2];
    private int trouble, fault, place = -1;
    private final Map<Integer, Boolean> fitting = new HashMap<>();

    // ---- texts

    int feed(int... numbers) {
        if (tape.size() + 20 > 700) return -1;
        for (int n : numbers) for (int k = 3; k >= 0; k--) tape.add(n >> 8 * k & 255);
        return tape.size();
    }

    int text(int n) {
        if (n < 0 || n > tape.size()) return no(2);
        StringBuilder t = new StringBuilder();
        for (int i = 0; i < n; i++) t.append((char) (int) tape.get(i));
        tape.clear();
        int[] found = read(t.toString());
        fault = found[0];
        if (fault != 0) { place = found[1]; return no(4); }
        return yes(now.stations.size());
    }

    /** An automaton over tokens: {fault, place}, {0, -1} if the text is taken. */
    private int[] read(String t) {
        Scene scene = new Scene();
        List<Border> lines = new ArrayList<>();
        int state = 0, count = 0, i = 0;
        boolean ofBorder = false;
        Station st = null;
        Border bo = null;
        for (;;) {
            while (i < t.length() && t.charAt(i) == ' ') i++;
            if (i == t.length()) {
                if (state != 2 && state != 20 && state != 22) return new int[] {1, i};
                if (scene.stations.isEmpty()) return new int[] {5, i};
                break;
            }
            int from = i;
            char c = t.charAt(i);
            String kind = c >= 'a' && c <= 'z' ? "[a-z]" : c >= '0' && c <= '9' ? "[0-9]" : null;
            i++;
            if (kind != null) while (i < t.length() && String.valueOf(t.charAt(i)).matches(kind)) i++;
            String token = t.substring(from, i);
            if (!token.matches("[a-z]{1,8}|[0-9]{1,3}|[;,]")) return new int[] {1, from};
            boolean whole = token.matches("[0-9]+");
            int v = whole ? Integer.parseInt(token) : -1;
            int[] form = {1, from}, bounds = {2, from}, again = {3, from}, many = {4, from};
            switch (state) {
                case 0: if (!token.equals("channels")) return form; state = 1; break;
                case 1: if (!whole) return form; if (v < 1 || v > 10) return bounds; count = v; state = 2; break;
                case 2: if (!token.equals(";")) return form; state = 3; break;
                case 3:
                    if (token.equals("channels")) return again;
                    if (token.equals("station")) {
                        if (scene.stations.size() == 8) return many;
                        st = new Station(); ofBorder = false; state = 10;
                    } else if (token.equals("border")) {
                        if (lines.size() == 4) return many;
                        bo = new Border(); lines.add(bo); ofBorder = true; state = 11;
                    } else return form;
                    break;
                case 10:
                    if (!token.matches("[a-z]+") || OWN.contains(token)) return form;
                    for (Station o : scene.stations) if (o.name.equals(token)) return again;
                    st.name = token; scene.stations.add(st); state = 11; break;
                case 11: if (!token.equals("at")) return form; state = 12; break;
                case 12: if (!whole) return form; if (v > 99) return bounds; if (ofBorder) bo.x = v; else st.x = v; state = 13; break;
                case 13: if (!whole) return form; if (v > 99) return bounds; if (ofBorder) bo.y = v; else st.y = v; state = 14; break;
                case 14: if (!token.equals("reach")) return form; state = 15; break;
                case 15: if (!whole) return form; if (v < 1 || v > 60) return bounds;
                    if (ofBorder) bo.reach = v; else st.reach = v; state = ofBorder ? 23 : 16; break;
                case 16: if (!token.equals("on")) return form; state = 17; break;
                case 17: if (!whole) return form; if (v < 1 || v > count) return bounds; st.channel = v; state = 18; break;
                case 18: if (!token.equals("worth")) return form; state = 19; break;
                case 19: if (!whole) return form; st.worth = v; state = 20; break;
                case 20: if (token.equals(";")) state = 3; else if (token.equals("not")) state = 21; else return form; break;
                case 21: if (!whole) return form; if (v < 1 || v > count) return bounds;
                    if (!(ofBorder ? bo.not : st.banned).add(v)) return again; state = 22; break;
                case 22: if (token.equals(";")) state = 3; else if (token.equals(",")) state = 21; else return form; break;
                default: if (!token.equals("not")) return form; state = 21; break;
            }
        }
        hasText = true; channels = count; now = scene; borders = lines; acts.clear(); images[0] = null; images[1] = null;
        return new int[] {0, -1};
    }

    int fault() { return fault; }

    int where() { return trouble == 4 ? place : -1; }

    int bytes() { return tape.size(); }

    int trouble() { return trouble; }

    int letter(int s, int i) {
        if (!st(s) || i < 0 || i >= at(s).name.length()) throw new NoSuchElementException();
        return at(s).name.charAt(i) - 'a';
    }

    // ---- what is told

    int about(int what) {
        if (!hasText || what < 0 || what > 8) return no(1);
        int on = 0, wrong = 0, worth = 0, top = 0;
        for (int s = 0; s < n(); s++) if (at(s).air) {
            on |= 1 << s;
            worth += at(s).worth;
            top = Math.max(top, at(s).channel);
            if (!list(s).contains(at(s).channel) || disturbers(s, at(s).channel) != 0) wrong |= 1 << s;
        }
        return yes(new int[] {channels, n(), borders.size(), on, wrong, worth, now.paid, top, acts.size()}[what]);
    }

    int station(int s, int what) {
        if (!st(s) || what < 0 || what > 7) return no(1);
        Station t = at(s);
        return yes(new int[] {t.x, t.y, t.reach, t.channel, t.worth, t.air ? 1 : 0, bits(list(s)), bits(t.banned)}[what]);
    }

    int border(int b, int what) {
        if (!hasText || b < 0 || b >= borders.size() || what < 0 || what > 4) return no(1);
        Border o = borders.get(b);
        int counts = 0;
        for (int s = 0; s < n(); s++) if (far(o.x, o.y, at(s).x, at(s).y) <= o.reach * o.reach) counts |= 1 << s;
        return yes(new int[] {o.x, o.y, o.reach, bits(o.not), counts}[what]);
    }

    int far(int s, int t) {
        if (!st(s) || !st(t)) return no(1);
        return yes(far(at(s).x, at(s).y, at(t).x, at(t).y));
    }

    int near(int s, int kind) {
        if (!st(s) || kind < 0 || kind > 2) return no(1);
        int found = 0;
        for (int t = 0; t < n(); t++) if (t != s) {
            boolean is = kind == 0 ? clash(s, t) : kind == 1 ? brush(s, t)
                : at(s).air && at(t).air && disturb(s, at(s).channel, t, at(t).channel);
            if (is) found |= 1 << t;
        }
        return yes(found);
    }

    int on(int c) {
        if (!hasText) return no(1);
        if (!ch(c)) return no(2);
        int found = 0;
        for (int s = 0; s < n(); s++) if (at(s).air && at(s).channel == c) found |= 1 << s;
        return yes(found);
    }

    int free(int s) {
        if (!st(s)) return no(1);
        return yes(freeOf(s));
    }

    // ---- what fits

    int fits(int set, int m) {
        if (!hasText) return no(1);
        if (!set(set) || !ch(m)) return no(2);
        return yes(fit(set, m) ? 1 : 0);
    }

    int rowOf(int set, int m, int s) {
        if (!st(s)) return no(1);
        if (!set(set) || !ch(m) || (set >> s & 1) == 0) return no(2);
        List<int[]> rows = rows(set, m, lists(), 1);
        return rows.isEmpty() ? no(6) : yes(rows.get(0)[s]);
    }

    int rows(int set, int m) {
        if (!hasText) return no(1);
        if (!set(set) || !ch(m)) return no(2);
        return yes(rows(set, m, lists(), 999).size());
    }

    int fewest(int set) {
        if (!hasText) return no(1);
        if (!set(set)) return no(2);
        if (set == 0) return yes(0);
        for (int m = 1; m <= channels; m++) if (fit(set, m)) return yes(m);
        return yes(-2);
    }

    int proof(int set, int m) {
        if (!hasText) return no(1);
        if (!set(set) || !ch(m)) return no(2);
        for (int size = 1; size <= n(); size++)
            for (int part = 0; part < 1 << n(); part++)
                if ((part & set) == part && Integer.bitCount(part) == size && !fit(part, m)) return yes(part);
        return yes(-2);
    }

    int cheapest(int m, int what) {
        if (!hasText || what < 0 || what > 1) return no(1);
        if (!ch(m)) return no(2);
        int set = cheapestWithout(m, -1);
        return yes(what == 0 ? set : worth(set));
    }

    int could(int set, int m, int s) {
        if (!st(s)) return no(1);
        if (!set(set) || !ch(m) || (set >> s & 1) == 0) return no(2);
        int found = 0;
        for (int c = 1; c <= m; c++) {
            List<TreeSet<Integer>> lists = lists();
            lists.get(s).retainAll(Set.of(c));
            if (!rows(set, m, lists, 1).isEmpty()) found |= 1 << c - 1;
        }
        return yes(found);
    }

    // ---- the clock

    /** {rounds, stays, frozen, sold, all prices, the price of each station, -2 for none ..}. */
    private int[] theClock(int m, int price, int step) {
        int[] a = new int[5 + n()];
        Arrays.fill(a, 5, 5 + n(), -2);
        TreeSet<Integer> in = new TreeSet<>();
        for (int s = 0; s < n(); s++) if (at(s).air) in.add(s);
        int p = price;
        for (;;) {
            a[0]++;
            for (int s : new ArrayList<>(in)) {
                if (!fit(a[1] | 1 << s, m)) { a[2] |= 1 << s; a[4] += p; a[5 + s] = p; in.remove(s); }
                else if (p < at(s).worth) { a[1] |= 1 << s; in.remove(s); }
            }
            if (in.isEmpty() || p == 0) break;
            p = Math.max(0, p - step);
        }
        for (int s : in) { a[3] |= 1 << s; a[5 + s] = 0; }
        return a;
    }

    int clock(int m, int price, int step, int what) {
        if (!hasText || what < 0 || what > 4) return no(1);
        if (!clk(m, price, step)) return no(2);
        return yes(theClock(m, price, step)[what]);
    }

    int pay(int m, int price, int step, int s) {
        if (!st(s)) return no(1);
        if (!clk(m, price, step)) return no(2);
        return yes(theClock(m, price, step)[5 + s]);
    }

    // ---- squeezed

    /** The squeezed row of those on air from given channels; null if they don't fit. */
    private int[] squeezed(int[] from, int m) {
        for (int most = 0; most <= n(); most++) {
            int[] row = from.clone();
            if (squeezeOn(0, row, from, m, most, lists())) return row;
        }
        return null;
    }

    /** The first row of the stations from s on by which no more than so many of them change. */
    private boolean squeezeOn(int s, int[] row, int[] from, int m, int most, List<TreeSet<Integer>> lists) {
        if (s == n()) return true;
        if (!at(s).air) return squeezeOn(s + 1, row, from, m, most, lists);
        for (int c : lists.get(s)) {
            boolean ok = c <= m && (c == from[s] || most > 0);
            for (int t = 0; t < s && ok; t++) if (at(t).air && disturb(s, c, t, row[t])) ok = false;
            row[s] = c;
            if (ok && squeezeOn(s + 1, row, from, m, c == from[s] ? most : most - 1, lists)) return true;
        }
        row[s] = from[s];
        return false;
    }

    private static int changes(int[] a, int[] b) {
        int count = 0;
        for (int s = 0; s < a.length; s++) if (a[s] != b[s]) count++;
        return count;
    }

    private int[] channelsNow() {
        int[] c = new int[n()];
        for (int s = 0; s < n(); s++) c[s] = at(s).channel;
        return c;
    }

    int squeeze(int m) {
        if (!hasText) return no(1);
        if (!ch(m)) return no(2);
        int[] row = squeezed(channelsNow(), m);
        return yes(row == null ? -2 : changes(row, channelsNow()));
    }

    int squeezeOf(int m, int s) {
        if (!st(s)) return no(1);
        if (!ch(m)) return no(2);
        int[] row = squeezed(channelsNow(), m);
        return row == null ? no(6) : yes(row[s]);
    }

    int order(int m, int i) {
        if (!hasText || i < 0) return no(1);
        if (!ch(m)) return no(2);
        int[] row = squeezed(channelsNow(), m);
        if (row == null) return no(6);
        List<Integer> order = firstOrder(channelsNow(), row);
        return yes(order == null || i >= order.size() ? -2 : order.get(i));
    }

    /** Permutations in their order; the first that works. */
    private List<Integer> firstOrder(int[] where, int[] row) {
        if (Arrays.equals(where, row)) return new ArrayList<>();
        for (int s = 0; s < n(); s++) if (where[s] != row[s]) {
            boolean ok = true;
            for (int t = 0; t < n(); t++) if (t != s && at(t).air && disturb(s, row[s], t, where[t])) ok = false;
            if (!ok) continue;
            int[] then = where.clone();
            then[s] = row[s];
            List<Integer> rest = firstOrder(then, row);
            if (rest != null) { rest.add(0, s); return rest; }
        }
        return null;
    }

    int steps(int m, int what) {
        if (!hasText || what < 0 || what > 2) return no(1);
        if (!ch(m)) return no(2);
        int sum = 0, most = 0;
        int[] where = channelsNow();
        for (int k = channels - 1; k >= m; k--) {
            int[] row = squeezed(where, k);
            if (row == null) return yes(-2);
            sum += changes(row, where);
            most = Math.max(most, changes(row, where));
            where = row;
        }
        return yes(what == 0 ? sum : what == 1 ? most : changes(where, channelsNow()));
    }

    // ---- bought, heard

    int due(int m, int s) {
        if (!st(s)) return no(1);
        if (!ch(m)) return no(2);
        int set = cheapestWithout(m, -1);
        if ((set >> s & 1) == 0) return yes(-2);
        int other = cheapestWithout(m, s);
        if (other == -1) return no(6);
        return yes(worth(other) - worth(set & ~(1 << s)));
    }

    int heard(int x, int y, int kind) {
        if (!hasText || kind < 0 || kind > 2) return no(1);
        if (x < 0 || x > 99 || y < 0 || y > 99) return no(2);
        int set = 0;
        int[] have = new int[11];
        for (int s = 0; s < n(); s++)
            if (at(s).air && far(x, y, at(s).x, at(s).y) <= at(s).reach * at(s).reach) { set |= 1 << s; have[at(s).channel]++; }
        int found = 0;
        for (int c = 1; c <= 10; c++) if (kind == 1 ? have[c] == 1 : have[c] >= 2) found |= 1 << c - 1;
        return yes(kind == 0 ? set : found);
    }

    int islands(int what) {
        if (!hasText || what < 0 || what > 2) return no(1);
        int[] root = new int[n()];
        for (int s = 0; s < n(); s++) root[s] = s;
        for (int round = 0; round < n(); round++)
            for (int s = 0; s < n(); s++) for (int t = 0; t < n(); t++)
                if (s != t && at(s).air && at(t).air && clash(s, t)) root[s] = root[t] = Math.min(root[s], root[t]);
        int count = 0, best = 0;
        for (int r = 0; r < n(); r++) {
            int island = 0;
            for (int s = 0; s < n(); s++) if (at(s).air && root[s] == r) island |= 1 << s;
            if (island != 0) count++;
            if (Integer.bitCount(island) > Integer.bitCount(best)) best = island;
        }
        return yes(what == 0 ? count : what == 1 ? Integer.bitCount(best) : best);
    }

    int lower(int s) {
        if (!st(s)) return no(1);
        for (int c = 1; c < at(s).channel; c++) if ((freeOf(s) >> c - 1 & 1) != 0) return yes(c);
        return yes(0);
    }

    // ---- acts

    private void act() {
        acts.add(now.copy());
        if (acts.size() > 10) acts.remove(0);
    }

    int move(int s, int c, boolean forced) {
        if (!st(s)) return no(1);
        if (!ch(c)) return no(2);
        if (!forced && (!list(s).contains(c) || disturbers(s, c) != 0)) return no(5);
        act();
        int had = at(s).channel;
        at(s).channel = c;
        return yes(had);
    }

    int buy(int s, int v) {
        if (!st(s)) return no(1);
        if (v < 0 || v > 999) return no(2);
        if (!at(s).air) return no(5);
        act();
        at(s).air = false;
        now.paid += v;
        return yes(now.paid);
    }

    int air(int s) {
        if (!st(s)) return no(1);
        if (at(s).air || !list(s).contains(at(s).channel) || disturbers(s, at(s).channel) != 0) return no(5);
        act();
        at(s).air = true;
        return yes(Integer.bitCount(onAir()));
    }

    int lay(int m) {
        if (!hasText) return no(1);
        if (!ch(m)) return no(2);
        int[] row = squeezed(channelsNow(), m);
        if (row == null) return no(6);
        act();
        int count = changes(row, channelsNow());
        for (int s = 0; s < n(); s++) at(s).channel = row[s];
        return yes(count);
    }

    int clear(int m, int price, int step) {
        if (!hasText) return no(1);
        if (!clk(m, price, step)) return no(2);
        int[] a = theClock(m, price, step);
        act();
        for (int s = 0; s < n(); s++) if (a[5 + s] != -2) at(s).air = false;
        now.paid += a[4];
        return yes(now.paid);
    }

    int value(int s, int v) {
        if (!st(s)) return no(1);
        if (v < 0 || v > 999) return no(2);
        act();
        int was = at(s).worth;
        at(s).worth = v;
        return yes(was);
    }

    int ban(int s, int c) {
        if (!st(s)) return no(1);
        if (!ch(c)) return no(2);
        act();
        if (!at(s).banned.remove(c)) at(s).banned.add(c);
        return yes(bits(at(s).banned));
    }

    int undo() {
        if (!hasText) return no(1);
        if (acts.isEmpty()) return no(5);
        now = acts.remove(acts.size() - 1);
        return yes(acts.size());
    }

    boolean keep(int i) {
        if (!hasText || i < 0 || i > 1) return no(1) == 0;
        images[i] = now.copy();
        return yes(1) == 1;
    }

    boolean back(int i) {
        if (!hasText || i < 0 || i > 1 || images[i] == null) return no(1) == 0;
        now = images[i].copy();
        acts.clear();
        return yes(1) == 1;
    }

    // ---- terms

    private int no(int number) { trouble = number; fitting.clear(); return -1; }

    private int yes(int answer) { trouble = 0; fitting.clear(); return answer; }

    private int n() { return now.stations.size(); }

    private Station at(int s) { return now.stations.get(s); }

    private boolean st(int s) { return hasText && s >= 0 && s < n(); }

    private boolean ch(int c) { return c >= 1 && c <= channels; }

    private boolean set(int set) { return set >= 0 && set < 1 << n(); }

    private boolean clk(int m, int price, int step) {
        return ch(m) && price >= 0 && price <= 999 && step >= 1 && step <= 999;
    }

    private static int far(int x, int y, int u, int v) { return (x - u) * (x - u) + (y - v) * (y - v); }

    private boolean clash(int s, int t) {
        int both = at(s).reach + at(t).reach;
        return far(at(s).x, at(s).y, at(t).x, at(t).y) <= both * both;
    }

    private boolean brush(int s, int t) {
        int great = Math.max(at(s).reach, at(t).reach);
        return far(at(s).x, at(s).y, at(t).x, at(t).y) <= great * great;
    }

    private boolean disturb(int s, int c, int t, int d) {
        return c == d && clash(s, t) || Math.abs(c - d) == 1 && brush(s, t);
    }

    private TreeSet<Integer> list(int s) {
        TreeSet<Integer> list = new TreeSet<>();
        for (int c = 1; c <= channels; c++) if (!at(s).banned.contains(c)) list.add(c);
        for (Border b : borders) if (far(b.x, b.y, at(s).x, at(s).y) <= b.reach * b.reach) list.removeAll(b.not);
        return list;
    }

    private static int bits(Set<Integer> numbers) {
        int bits = 0;
        for (int c : numbers) bits |= 1 << c - 1;
        return bits;
    }

    private int disturbers(int s, int c) {
        int found = 0;
        for (int t = 0; t < n(); t++) if (t != s && at(t).air && disturb(s, c, t, at(t).channel)) found |= 1 << t;
        return found;
    }

    private int freeOf(int s) {
        int found = 0;
        for (int c : list(s)) if (disturbers(s, c) == 0) found |= 1 << c - 1;
        return found;
    }

    private int onAir() {
        int on = 0;
        for (int s = 0; s < n(); s++) if (at(s).air) on |= 1 << s;
        return on;
    }

    private int worth(int set) {
        int sum = 0;
        for (int s = 0; s < n(); s++) if ((set >> s & 1) != 0) sum += at(s).worth;
        return sum;
    }

    private int cheapestWithout(int m, int spared) {
        int best = -1;
        for (int set = 0; set < 1 << n(); set++) {
            if ((set & ~onAir()) != 0 || spared >= 0 && (set >> spared & 1) != 0) continue;
            if ((best == -1 || worth(set) < worth(best)) && fit(onAir() & ~set, m)) best = set;
        }
        return best;
    }

    /** What is found is kept for the rest of one call only: nothing changes within it. */
    private boolean fit(int set, int m) {
        Boolean known = fitting.get(m << 8 | set);
        if (known == null) {
            known = !rows(set, m, lists(), 1).isEmpty();
            fitting.put(m << 8 | set, known);
        }
        return known;
    }

    private List<TreeSet<Integer>> lists() {
        List<TreeSet<Integer>> lists = new ArrayList<>();
        for (int s = 0; s < n(); s++) lists.add(list(s));
        return lists;
    }

    /** The first rows of a set up to m in their order, up to so many. */
    private List<int[]> rows(int set, int m, List<TreeSet<Integer>> lists, int most) {
        List<int[]> found = new ArrayList<>();
        extend(set, m, 0, new int[n()], lists, found, most);
        return found;
    }

    private void extend(int set, int m, int s, int[] row, List<TreeSet<Integer>> lists, List<int[]> found, int most) {
        if (found.size() >= most) return;
        if (s == n()) { found.add(row.clone()); return; }
        if ((set >> s & 1) == 0) { extend(set, m, s + 1, row, lists, found, most); return; }
        for (int c : lists.get(s)) {
            boolean ok = c <= m;
            for (int t = 0; t < s && ok; t++) if ((set >> t & 1) != 0 && disturb(s, c, t, row[t])) ok = false;
            if (ok) { row[s] = c; extend(set, m, s + 1, row, lists, found, most); row[s] = 0; }
        }
    }
}
