import java.lang.reflect.Array;
import java.util.ArrayList;
import java.util.LinkedHashMap;
import java.util.List;
import java.util.Map;
import java.util.TreeSet;
import java.util.Set;

/**
 * The whole document once more, as plainly as can be and with all of the Java library: true fractions,
 * true rows, true refusals of the machine. Random runs compare the class with it.
 */
public final class PlainDoors {
    static final int BAD = -1, NOT = -2, FULL = -3, STATE = -5, VOID = -2000000000;
    static final long NO = Long.MIN_VALUE;

    private int[] weight = {1, 1, 1};
    private int[] code = new int[3];
    private int host = 0, acts = 1, chosen = 0;
    private final String[] laws = new String[4];
    private final StringBuilder tape = new StringBuilder();
    private List<int[]> told = new ArrayList<>();
    private int[] led = new int[3];
    private List<int[]> imageTold;
    private int imageChosen;
    private int[] imageLed;
    private List<int[]> undos = new ArrayList<>(), redos = new ArrayList<>();
    private final List<PlainBodies.Door> bodies = new ArrayList<>();
    private List<Integer> trace = new ArrayList<>();
    private final Object[] shelves = new Object[6];

    private int n() { return weight.length; }

    private boolean isDoor(int d) { return 0 <= d && d < n(); }

    private Set<Integer> open() {
        Set<Integer> open = new TreeSet<>();
        for (int[] act : told) if (act[0] >= 0) open.add(act[0]);
        return open;
    }

    private int all() {
        int sum = 0;
        for (int w : weight) sum += w;
        return sum;
    }

    public int doors(int n) {
        if (n < 2 || n > 5) return BAD;
        int were = n();
        weight = new int[n];
        for (int d = 0; d < n; d++) weight[d] = 1;
        code = new int[n];
        chosen = 0;
        told = new ArrayList<>();
        undos = new ArrayList<>();
        redos = new ArrayList<>();
        imageTold = null;
        return were;
    }

    public int weights(int shelf, int i, int n) {
        if (shelf < 0 || shelf > 5 || n < 1 || n > 5) return BAD;
        int came = 0;
        try {
            byte[] row = (byte[]) shelves[shelf];
            for (int k = 0; k < n; k++) {
                byte v = row[i + k];
                if (v < 0 || v > 12) throw new IllegalArgumentException();
                weight[k] = v;
                came++;
            }
        } catch (ClassCastException e) {
            return -12;
        } catch (NullPointerException | ArrayIndexOutOfBoundsException | IllegalArgumentException e) {
            return came;
        }
        return came;
    }

    public int mend(int number, int what, int v) {
        if (what == 0) {
            if (!isDoor(number) || v < 0 || v > 12) return BAD;
        } else if (what == 1) {
            if (number != 0 || v < 0 || v > 3) return BAD;
        } else if (what != 2 || number != 0 || v < 1 || v > 3) {
            return BAD;
        }
        int was = set(number, what, v);
        if (was != v) {
            undos.add(new int[] {number, what, was, v});
            if (undos.size() > 40) undos.remove(0);
            redos.clear();
        }
        return was;
    }

    private int set(int number, int what, int v) {
        int was = what == 0 ? weight[number] : what == 1 ? host : acts;
        if (what == 0) weight[number] = v;
        if (what == 1) host = v;
        if (what == 2) acts = v;
        return was;
    }

    public int of(int number, int what) {
        if (what == 0 && isDoor(number)) return weight[number];
        if (what == 1 && isDoor(number)) return open().contains(number) ? 1 : 0;
        if (what == 2 && isDoor(number)) return code[number];
        if ((what == 10 || what == 11) && number >= 0 && number < told.size()) return told.get(number)[what - 10];
        if (number != 0) return VOID;
        if (what == 20) return host;
        if (what == 21) return acts;
        if (what == 22) return chosen;
        return what == 23 ? n() : VOID;
    }

    public int feed(int letter) {
        if (letter < 0 || letter > 255) return BAD;
        if (tape.length() == 120) return FULL;
        return tape.append((char) letter).length();
    }

    public int law(int host) {
        if (host < 0 || host > 3) return BAD;
        String text = tape.toString();
        tape.setLength(0);
        int fault = PlainLaw.fault(text);
        if (fault >= 0) return -100 - fault;
        laws[host] = text;
        return 1;
    }

    private int twelfths(int host, int act, int open, int chosen, int d, int x) {
        if (laws[host] == null) return d == x ? 0 : 12;
        return new PlainLaw(laws[host]).twelfths(d, x, chosen, n(), open, act);
    }

    public int opens(int dx) {
        if (dx < 0 || !isDoor(dx / 10) || !isDoor(dx % 10)) return BAD;
        if (open().contains(dx / 10) || chosen == dx / 10) return STATE;
        return twelfths(host, told.size(), open().size(), chosen, dx / 10, dx % 10);
    }

    public int choose(int door) {
        if (!isDoor(door)) return BAD;
        if (open().contains(door)) return STATE;
        int was = chosen;
        chosen = door;
        return was;
    }

    public int opened(int door) {
        if (door != -1 && (!isDoor(door) || door == chosen || open().contains(door))) return BAD;
        if (told.size() == 3) return FULL;
        told.add(new int[] {door, chosen});
        return told.size();
    }

    public int anew() {
        int were = told.size();
        told = new ArrayList<>();
        return were;
    }

    /** What a host does in an act, and how likely: by the door opened, -1 for NONE. */
    private Map<Integer, Ratio> outcomes(int host, int act, Set<Integer> open, int chosen, int cow) {
        Map<Integer, Ratio> all = new LinkedHashMap<>();
        Ratio rest = Ratio.ONE;
        for (int d = 0; d < n(); d++) {
            if (d == chosen || open.contains(d)) continue;
            Ratio p = Ratio.of(twelfths(host, act, open.size(), chosen, d, cow), 12);
            all.put(d, rest.times(p));
            rest = rest.times(Ratio.ONE.minus(p));
        }
        all.put(-1, rest);
        return all;
    }

    private static Set<Integer> with(Set<Integer> open, int door) {
        Set<Integer> more = new TreeSet<>(open);
        if (door >= 0) more.add(door);
        return more;
    }

    private Ratio joint(int cow) {
        Ratio p = Ratio.of(weight[cow], 1);
        Set<Integer> open = new TreeSet<>();
        for (int k = 0; k < told.size(); k++) {
            int[] act = told.get(k);
            p = p.times(outcomes(host, k, open, act[1], cow).get(act[0]));
            open = with(open, act[0]);
        }
        return p;
    }

    /** How likely the cow is behind each door; null, if it cannot have come so. */
    private Ratio[] likelihoods() {
        Ratio sum = Ratio.ZERO;
        Ratio[] each = new Ratio[n()];
        for (int x = 0; x < n(); x++) sum = sum.plus(each[x] = joint(x));
        if (sum.isZero()) return null;
        for (int x = 0; x < n(); x++) each[x] = each[x].by(sum);
        return each;
    }

    private static boolean isPart(int part) { return part == 0 || part == 1; }

    public long likely(int door, int part) {
        if (!isDoor(door) || !isPart(part)) return NO;
        Ratio[] each = likelihoods();
        return each == null ? NOT : each[door].part(part);
    }

    public int best() {
        Ratio[] each = likelihoods();
        if (each == null) return NOT;
        Ratio most = Ratio.ZERO;
        for (int d = 0; d < n(); d++) if (!open().contains(d) && each[d].compareTo(most) > 0) most = each[d];
        if (each[chosen].compareTo(most) == 0) return chosen;
        for (int d = 0; d < n(); d++) if (!open().contains(d) && each[d].compareTo(most) == 0) return d;
        throw new IllegalStateException();
    }

    public long gain(int part) {
        if (!isPart(part)) return NO;
        Ratio[] each = likelihoods();
        return each == null ? NOT : each[best()].minus(each[chosen]).part(part);
    }

    public long next(int door, int part) {
        if (!isPart(part) || told.size() == 3 || door < -1 || door >= n()) return NO;
        if (door == chosen || open().contains(door)) return NO;
        Ratio[] each = likelihoods();
        if (each == null) return NOT;
        Ratio sum = Ratio.ZERO;
        for (int x = 0; x < n(); x++) {
            sum = sum.plus(each[x].times(outcomes(host, told.size(), open(), chosen, x).get(door)));
        }
        return sum.part(part);
    }

    private int leastOther(Set<Integer> open, int chosen) {
        for (int d = 0; d < n(); d++) if (d != chosen && !open.contains(d)) return d;
        return chosen;
    }

    /** How likely a way wins, the cow being behind a door. */
    private Ratio wins(int host, int way, int act, Set<Integer> open, int chosen, int cow) {
        if (act == acts) {
            int last = way == 1 ? leastOther(open, chosen) : chosen;
            return last == cow && !open.contains(cow) ? Ratio.ONE : Ratio.ZERO;
        }
        Ratio sum = Ratio.ZERO;
        for (Map.Entry<Integer, Ratio> o : outcomes(host, act, open, chosen, cow).entrySet()) {
            if (o.getValue().isZero()) continue;
            Set<Integer> more = with(open, o.getKey());
            int then = way == 2 ? leastOther(more, chosen) : chosen;
            sum = sum.plus(o.getValue().times(wins(host, way, act + 1, more, then, cow)));
        }
        return sum;
    }

    private Ratio worthOf(int host, int way, int door) {
        Ratio sum = Ratio.ZERO;
        for (int x = 0; x < n(); x++) {
            sum = sum.plus(Ratio.of(weight[x], all()).times(wins(host, way, 0, new TreeSet<>(), door, x)));
        }
        return sum;
    }

    public long worth(int way, int door, int part) {
        if (way < 0 || way > 2 || !isDoor(door) || !isPart(part)) return NO;
        return all() == 0 ? NOT : worthOf(host, way, door).part(part);
    }

    /** The most that can be won once a door is chosen ahead of an act, or at the end. */
    private Ratio most(int host, int act, Set<Integer> open, int chosen, Ratio[] each) {
        if (act == acts) return each[chosen];
        Ratio sum = Ratio.ZERO;
        List<Map<Integer, Ratio>> by = new ArrayList<>();
        for (int x = 0; x < n(); x++) by.add(outcomes(host, act, open, chosen, x));
        for (int o : by.get(0).keySet()) {
            Ratio[] then = new Ratio[n()];
            boolean some = false;
            for (int x = 0; x < n(); x++) some |= !(then[x] = each[x].times(by.get(x).get(o))).isZero();
            if (!some) continue;
            Set<Integer> more = with(open, o);
            Ratio best = Ratio.ZERO;
            for (int d = 0; d < n(); d++) {
                if (more.contains(d)) continue;
                Ratio v = most(host, act + 1, more, d, then);
                if (v.compareTo(best) > 0) best = v;
            }
            sum = sum.plus(best);
        }
        return sum;
    }

    private Ratio mostFirst(int host, int door) {
        Ratio[] each = new Ratio[n()];
        for (int x = 0; x < n(); x++) each[x] = Ratio.of(weight[x], all());
        return most(host, 0, new TreeSet<>(), door, each);
    }

    private int bestFirst(int host) {
        int best = 0;
        for (int d = 1; d < n(); d++) if (mostFirst(host, d).compareTo(mostFirst(host, best)) > 0) best = d;
        return best;
    }

    public long theBest(int part) {
        if (part < 0 || part > 2) return NO;
        if (all() == 0) return NOT;
        int first = bestFirst(host);
        return part == 2 ? first : mostFirst(host, first).part(part);
    }

    private Ratio least(int hosts, int way, int door) {
        Ratio least = Ratio.ONE;
        for (int h = 0; h < 4; h++) {
            if ((hosts & 1 << h) == 0) continue;
            Ratio w = worthOf(h, way, door);
            if (w.compareTo(least) < 0) least = w;
        }
        return least;
    }

    public long sure(int hosts, int door, int part) {
        if (hosts < 1 || hosts > 15 || !isDoor(door) || part < 0 || part > 2) return NO;
        if (all() == 0) return NOT;
        Ratio stay = least(hosts, 0, door), change = least(hosts, 1, door);
        boolean changes = change.compareTo(stay) > 0;
        return part == 2 ? (changes ? 1 : 0) : (changes ? change : stay).part(part);
    }

    public long hardest(int hosts, int part) {
        if (hosts < 1 || hosts > 15 || part < 0 || part > 2) return NO;
        if (all() == 0) return NOT;
        int hardest = -1;
        Ratio least = null;
        for (int h = 0; h < 4; h++) {
            if ((hosts & 1 << h) == 0) continue;
            Ratio v = mostFirst(h, bestFirst(h));
            if (least == null || v.compareTo(least) < 0) {
                least = v;
                hardest = h;
            }
        }
        return part == 2 ? hardest : least.part(part);
    }

    private Ratio first(int host, int c, int o, int x) {
        if (!isDoor(c) || !isDoor(x) || o < -1 || o >= n() || o == c) return Ratio.ZERO;
        return outcomes(host, 0, new TreeSet<>(), c, x).get(o);
    }

    private Ratio three(int host, byte[] row, int k) {
        return 3 * k + 2 < row.length ? first(host, row[3 * k], row[3 * k + 1], row[3 * k + 2]) : Ratio.ZERO;
    }

    public long which(int shelf, int hh, int part) {
        int hosts = hh / 10, one = hh % 10;
        if (shelf < 0 || shelf > 5 || hh < 10 || hosts > 15 || one > 3 || (hosts & 1 << one) == 0) return NO;
        if (!isPart(part) || !(shelves[shelf] instanceof byte[])) return NO;
        byte[] row = (byte[]) shelves[shelf];
        if (row.length > 12) return NO;
        Ratio all = Ratio.ZERO, mine = Ratio.ZERO;
        for (int h = 0; h < 4; h++) {
            if ((hosts & 1 << h) == 0) continue;
            Ratio p = Ratio.ONE;
            for (int k = 0; 3 * k < row.length; k++) p = p.times(three(h, row, k));
            all = all.plus(p);
            if (h == one) mine = p;
        }
        return (all.isZero() ? all : mine.by(all)).part(part);
    }

    public int judge(int shelf, int hosts) {
        if (shelf < 0 || shelf > 5 || hosts < 1 || hosts > 15) return BAD;
        if (shelves[shelf] == null) return -11;
        if (!(shelves[shelf] instanceof byte[])) return -12;
        byte[] row = (byte[]) shelves[shelf];
        for (int k = 0; 3 * k < row.length; k++) {
            boolean some = false;
            for (int h = 0; h < 4; h++) some |= (hosts & 1 << h) != 0 && !three(h, row, k).isZero();
            if (!some) return k;
        }
        return NOT;
    }

    public int apart(int gh, int cox) {
        if (gh < 0 || gh / 10 > 3 || gh % 10 > 3 || gh / 10 == gh % 10 || cox < 0) return BAD;
        int c = cox / 100, o = cox / 10 % 10, x = cox % 10;
        if (!isDoor(c) || !isDoor(o) || !isDoor(x) || c == o) return BAD;
        Ratio g = first(gh / 10, c, o, x), h = first(gh % 10, c, o, x);
        if (g.isZero()) return NOT;
        if (h.isZero()) return 1;
        Ratio times = Ratio.ONE;
        for (int k = 1; k <= 4; k++) {
            times = times.times(g.by(h));
            if (times.compareTo(Ratio.of(12, 1)) >= 0) return k;
        }
        return NOT;
    }

    private int z;

    private int draw(int many) {
        z = z * 1103515245 + 12345;
        return (z >>> 8) % many;
    }

    public int drawn(int seed, int nw, int what) {
        if (nw < 10 || nw / 10 > 50 || nw % 10 > 2 || what < 0 || what > 1) return BAD;
        if (all() == 0) return STATE;
        z = seed;
        int won = 0, seen = 0;
        for (int k = 0; k < nw / 10; k++) {
            List<Integer> hat = new ArrayList<>();
            for (int d = 0; d < n(); d++) for (int w = 0; w < weight[d]; w++) hat.add(d);
            int cow = hat.get(draw(hat.size()));
            Set<Integer> open = new TreeSet<>();
            int mine = chosen;
            for (int act = 0; act < acts; act++) {
                int opens = -1;
                for (int d = 0; d < n() && opens < 0; d++) {
                    if (d == mine || open.contains(d)) continue;
                    if (draw(12) < twelfths(host, act, open.size(), mine, d, cow)) opens = d;
                }
                open = with(open, opens);
                if (nw % 10 == 2) mine = leastOther(open, mine);
            }
            if (nw % 10 == 1) mine = leastOther(open, mine);
            if (open.contains(cow)) seen++;
            else if (mine == cow) won++;
        }
        return what == 0 ? won : seen;
    }

    public int code(int door, int v) {
        if (!isDoor(door) || v < 0 || v > 4) return BAD;
        int was = code[door];
        code[door] = v;
        return was;
    }

    private int wonBy(int[] code) {
        int[] most = new int[5];
        for (int d = 0; d < n(); d++) most[code[d]] = Math.max(most[code[d]], weight[d]);
        return most[0] + most[1] + most[2] + most[3] + most[4];
    }

    private int mostByCodes(int m, int door, int[] code) {
        if (door == n()) return wonBy(code);
        int most = 0;
        for (int v = 0; v < m; v++) {
            code[door] = v;
            most = Math.max(most, mostByCodes(m, door + 1, code));
        }
        return most;
    }

    public long partner(int m, int part) {
        if (m < 0 || m > 5 || !isPart(part)) return NO;
        if (all() == 0) return NOT;
        return Ratio.of(m == 0 ? wonBy(code) : mostByCodes(m, 0, new int[n()]), all()).part(part);
    }

    public int win(int door) {
        if (!isDoor(door)) return BAD;
        int how = open().contains(door) ? 2 : chosen == door ? 1 : 0;
        led[how == 1 ? 0 : how == 2 ? 1 : 2]++;
        told = new ArrayList<>();
        return how;
    }

    public int led(int what) {
        return what < 0 || what > 2 ? BAD : led[what];
    }

    public int image() {
        imageTold = new ArrayList<>(told);
        imageChosen = chosen;
        imageLed = led.clone();
        return told.size();
    }

    public int back() {
        if (imageTold == null) return STATE;
        told = new ArrayList<>(imageTold);
        chosen = imageChosen;
        led = imageLed.clone();
        return told.size();
    }

    public int undo() {
        if (undos.isEmpty()) return STATE;
        int[] c = undos.remove(undos.size() - 1);
        set(c[0], c[1], c[2]);
        redos.add(c);
        return undos.size();
    }

    public int redo() {
        if (redos.isEmpty()) return STATE;
        int[] c = redos.remove(redos.size() - 1);
        set(c[0], c[1], c[3]);
        undos.add(c);
        return redos.size();
    }

    public int body(int kind) {
        if (kind < 0 || kind > 7) return BAD;
        if (bodies.size() == 50) return FULL;
        bodies.add(PlainBodies.make(kind, bodies.size()));
        return bodies.size() - 1;
    }

    public int act(int body, int act, int x) {
        trace = new ArrayList<>();
        if (body < 0 || body >= bodies.size() || act < 0 || act > 3) return 0;
        PlainBodies.ran.clear();
        int answer = PlainBodies.perform(bodies.get(body), act, x);
        trace.addAll(PlainBodies.ran);
        return answer;
    }

    public int trace(int i) {
        return i < 0 || i >= 24 || i >= trace.size() ? BAD : trace.get(i);
    }

    public int keep(int shelf, int body) {
        if (shelf < 0 || shelf > 5 || body < -1 || body >= bodies.size()) return BAD;
        shelves[shelf] = body == -1 ? null : bodies.get(body);
        return 1;
    }

    public int row(int shelf, int sort, int n) {
        if (shelf < 0 || shelf > 5 || sort < 0 || sort > 4 || n > 60) return BAD;
        try {
            Class<?>[] sorts = {byte.class, short.class, int.class, long.class, boolean.class};
            shelves[shelf] = Array.newInstance(sorts[sort], n);
        } catch (NegativeArraySizeException e) {
            return -14;
        }
        return 1;
    }

    public int put(int shelf, int i, long v) {
        if (shelf < 0 || shelf > 5) return BAD;
        Object o = shelves[shelf];
        if (o == null) return -11;
        if (!o.getClass().isArray()) return -12;
        try {
            if (o instanceof byte[]) ((byte[]) o)[i] = (byte) v;
            if (o instanceof short[]) ((short[]) o)[i] = (short) v;
            if (o instanceof int[]) ((int[]) o)[i] = (int) v;
            if (o instanceof long[]) ((long[]) o)[i] = v;
            if (o instanceof boolean[]) ((boolean[]) o)[i] = v != 0;
        } catch (ArrayIndexOutOfBoundsException e) {
            return -13;
        }
        return 1;
    }

    public long element(int shelf, int i) {
        try {
            Object o = shelves[shelf];
            return o instanceof boolean[] ? (((boolean[]) o)[i] ? 1 : 0) : Array.getLong(o, i);
        } catch (RuntimeException e) {
            return NO;
        }
    }

    public int shift(int shelf, int i, int other, int j, int n) {
        if (shelf < 0 || shelf > 5 || other < 0 || other > 5) return BAD;
        try {
            System.arraycopy(shelves[shelf], i, shelves[other], j, n);
        } catch (NullPointerException e) {
            return -11;
        } catch (ArrayStoreException e) {
            return -12;
        } catch (IndexOutOfBoundsException e) {
            return -13;
        }
        return n;
    }

    public int taken(int shelf, int k) {
        if (shelf < 0 || shelf > 5 || k < 0 || k > 7) return BAD;
        if (shelves[shelf] == null) return -11;
        return PlainBodies.KINDS[k].isInstance(shelves[shelf]) ? PlainBodies.kindOf((PlainBodies.Door) shelves[shelf]) : -12;
    }

    public int count(int what) {
        int[] all = {n(), open().size(), told.size(), tape.length(), undos.size(), bodies.size(), trace.size()};
        return what < 0 || what > 6 ? BAD : all[what];
    }
}
