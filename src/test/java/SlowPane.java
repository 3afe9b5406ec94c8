import java.math.BigInteger;
import java.util.ArrayDeque;
import java.util.ArrayList;
import java.util.Deque;
import java.util.List;
import java.util.Set;
import java.util.TreeSet;

/**
 * The whole document once more, as plainly and slowly as it goes: every way is tried, every number worked out anew,
 * and what the host refuses is left to the host. ModelTest asks it and the class the same.
 */
final class SlowPane {
    private static final int BAD = -1, NOT = -2, FULL = -3, STATE = -5, VOID = -2000000000;
    private static final long LONG_BAD = Long.MIN_VALUE;
    private static final int[][] RANGES = {
        {0, 30}, {0, 30}, {1, 60}, {0, 60}, {0, 9}, {0, 12}, {0, 3}, {1, 6}, {0, 999}, {0, 99}, {0, 999},
    };

    private static final class Change {
        int[] where;
        int i, was, became;
    }

    private static final class Deed implements Cloneable {
        boolean on;
        int place, minute, held, all, arrived, cracked, paces, rests;
        Integer least;

        Deed copy() {
            try {
                return (Deed) clone();
            } catch (CloneNotSupportedException e) {
                throw new IllegalStateException(e);
            }
        }
    }

    private final List<int[]> street = new ArrayList<>();
    private final int[] once = {2, 99, 0, 400};
    private final Deque<Change> toUndo = new ArrayDeque<>(), toRedo = new ArrayDeque<>();
    private final StringBuilder tape = new StringBuilder();
    private String text;
    private Deed deed = new Deed(), kept;
    private final List<SlowActs.Pace> bodies = new ArrayList<>();
    private List<Integer> ran = new ArrayList<>();
    private final Object[] shelves = new Object[6];
    private int moreGust;

    private static boolean in(long v, long least, long most) {
        return v >= least && v <= most;
    }

    private static boolean fits(int what, int v) {
        return in(v, RANGES[what][0], RANGES[what][1]);
    }

    // ---- places, men

    public int place(int gust, int people) {
        if (!fits(0, gust) || !fits(5, people)) return BAD;
        if (street.size() == 12) return FULL;
        street.add(new int[] {gust, 0, 10, 2, 0, people, 3});
        return street.size() - 1;
    }

    public int places(int shelf, int i, int n) {
        if (!in(shelf, 0, 5) || !in(n, 1, 12)) return BAD;
        if (shelves[shelf] == null) return 0;
        if (!(shelves[shelf] instanceof byte[])) return -12;
        byte[] row = (byte[]) shelves[shelf];
        int came = 0;
        try {
            for (; came < n; came++) {
                int gust = row[i + 3 * came], kerb = row[i + 3 * came + 1], people = row[i + 3 * came + 2];
                if (!fits(4, kerb) || place(gust, people) < 0) return came;
                street.get(street.size() - 1)[4] = kerb;
            }
        } catch (ArrayIndexOutOfBoundsException e) {
            return came;
        }
        return came;
    }

    private int[] holderOf(int number, int what) {
        if (in(what, 0, 6)) return in(number, 0, street.size() - 1) ? street.get(number) : null;
        return in(what, 7, 10) && number == 0 ? once : null;
    }

    public int mend(int number, int what, int v) {
        int[] where = holderOf(number, what);
        if (where == null || !fits(what, v)) return BAD;
        Change change = new Change();
        change.where = where;
        change.i = what < 7 ? what : what - 7;
        change.was = where[change.i];
        change.became = v;
        if (change.was != v) {
            where[change.i] = v;
            toRedo.clear();
            toUndo.addLast(change);
            if (toUndo.size() > 40) toUndo.removeFirst();
        }
        return change.was;
    }

    public int of(int number, int what) {
        int[] where = holderOf(number, what);
        return where == null ? BAD : where[what < 7 ? what : what - 7];
    }

    private int blows(int place, int minute) {
        int[] p = street.get(place);
        return minute % p[2] < p[3] ? p[0] + moreGust : p[1];
    }

    public int wind(int place, int minute) {
        return in(place, 0, street.size() - 1) && in(minute, 0, 9999) ? blows(place, minute) : BAD;
    }

    public int feed(int letter) {
        if (!in(letter, 0, 255)) return BAD;
        if (tape.length() == 120) return FULL;
        return tape.append((char) letter).length();
    }

    public int law() {
        String told = tape.toString();
        tape.setLength(0);
        int fault = SlowLaw.fault(told);
        if (fault >= 0) return -100 - fault;
        text = told;
        return 1;
    }

    private int strains(int place, int h, int minute) {
        int w = blows(place, minute), m = once[0], k = street.get(place)[4], s = once[2];
        int v = text == null ? w * h / m + k + (h == 0 ? w / 4 : 0) : SlowLaw.worth(text, w, h, m, k, s, place);
        return v < 0 ? 0 : v > 99 ? 99 : v;
    }

    public int strain(int ph, int minute) {
        if (ph < 0 || ph / 10 >= street.size() || ph % 10 > 3 || !in(minute, 0, 9999)) return BAD;
        return strains(ph / 10, ph % 10, minute);
    }

    // ---- walks in thought

    private int limit() {
        return once[1] - 5 * once[2];
    }

    /** ALL STRAIN behind each minute, from a PLACE on. */
    private List<Integer> allStrains(int[] held, int from, int minute) {
        List<Integer> all = new ArrayList<>();
        int sum = 0;
        for (int place = from; place < street.size(); place++) {
            sum += strains(place, held[place], minute++);
            if (place > from && held[place] != held[place - 1]) sum++;
            all.add(sum);
        }
        return all;
    }

    private int[] told(int shelf) {
        byte[] row = (byte[]) shelves[shelf];
        int[] held = new int[12];
        for (int i = 0; i < 12 && i < row.length; i++) held[i] = in(row[i], 0, 3) ? row[i] : 0;
        return held;
    }

    private int cracksAt(int shelf, int from, int minute) {
        List<Integer> all = allStrains(told(shelf), from, minute);
        for (int i = 0; i < all.size(); i++) if (all.get(i) > limit()) return from + i;
        return NOT;
    }

    private int refusal(int shelf, boolean asSaid) {
        if (!in(shelf, 0, 5) || !asSaid) return BAD;
        if (shelves[shelf] == null) return -11;
        if (!(shelves[shelf] instanceof byte[])) return -12;
        return street.isEmpty() ? STATE : 0;
    }

    public int walk(int shelf, int minute, int what) {
        int refusal = refusal(shelf, in(minute, 0, 999) && in(what, 0, 2));
        if (refusal != 0) return refusal;
        if (what == 0) return cracksAt(shelf, 0, minute);
        if (what == 1) return allStrains(told(shelf), 0, minute).stream().max(Integer::compare).get();
        for (int p = 0; p < street.size(); p++) if (told(shelf)[p] > street.get(p)[6]) return 0;
        return 1;
    }

    public int start(int shelf, int what) {
        int refusal = refusal(shelf, in(what, 0, 1));
        if (refusal != 0) return refusal;
        int best = 0;
        for (int m = 59; m >= 0; m--) if (walk(shelf, m, 1) <= walk(shelf, best, 1)) best = m;
        for (int m = best; m >= 0; m--) if (walk(shelf, m, 1) == walk(shelf, best, 1)) best = m;
        return what == 0 ? best : walk(shelf, best, 1);
    }

    private int[] bestHeld;
    private int bestAll;

    private void tryHolds(int[] held, int place, int all, int minute) {
        if (all >= bestAll) return;
        if (place == street.size()) {
            bestAll = all;
            bestHeld = held.clone();
            return;
        }
        for (int h = 0; h <= street.get(place)[6]; h++) {
            held[place] = h;
            int turn = place > 0 && held[place - 1] != h ? 1 : 0;
            tryHolds(held, place + 1, all + turn + strains(place, h, minute + place), minute);
        }
    }

    public long hold(int minute, int what) {
        if (!in(minute, 0, 999) || !in(what, 0, 2)) return LONG_BAD;
        if (street.isEmpty()) return STATE;
        bestAll = Integer.MAX_VALUE;
        tryHolds(new int[12], 0, 0, minute);
        if (what == 1) return bestAll;
        if (what == 2) return allStrains(bestHeld, 0, minute).stream().anyMatch(a -> a > limit()) ? 1 : 0;
        StringBuilder digits = new StringBuilder();
        for (int p = 0; p < street.size(); p++) digits.append(bestHeld[p]);
        return Long.parseLong(digits.toString());
    }

    /** By minutes: with which ALL STRAINS the shop may be come into, of all ways to rest. */
    private List<Set<Integer>> arrivals(int minute, int most) {
        List<Set<Integer>> arrivals = new ArrayList<>();
        int last = street.size() - 1;
        List<Set<Integer>> now = new ArrayList<>();
        for (int p = 0; p <= last; p++) now.add(new TreeSet<>());
        now.get(0).add(strains(0, 0, minute));
        now.get(0).removeIf(a -> a > limit());
        arrivals.add(new TreeSet<>(now.get(last)));
        for (int t = 1; t <= most; t++) {
            List<Set<Integer>> then = new ArrayList<>();
            for (int p = 0; p <= last; p++) then.add(new TreeSet<>());
            for (int p = 0; p < last; p++) {
                for (int all : now.get(p)) {
                    int rested = all + strains(p, 0, minute + t);
                    if (blows(p, minute + t) == 0) rested = Math.max(0, rested - 3);
                    int paced = all + strains(p + 1, 0, minute + t);
                    if (rested <= limit()) then.get(p).add(rested);
                    if (paced <= limit()) then.get(p + 1).add(paced);
                }
            }
            now = then;
            arrivals.add(new TreeSet<>(now.get(last)));
        }
        return arrivals;
    }

    public int soonest(int minute) {
        if (!in(minute, 0, 999)) return BAD;
        if (street.isEmpty()) return STATE;
        List<Set<Integer>> arrivals = arrivals(minute, 99);
        for (int t = 0; t <= 99; t++) if (!arrivals.get(t).isEmpty()) return t;
        return NOT;
    }

    public int safest(int minute, int n) {
        if (!in(minute, 0, 999) || !in(n, 0, 60)) return BAD;
        if (street.isEmpty()) return STATE;
        TreeSet<Integer> any = new TreeSet<>();
        for (Set<Integer> some : arrivals(minute, n)) any.addAll(some);
        return any.isEmpty() ? NOT : any.first();
    }

    public int menFor(int shelf, int minute) {
        int refusal = refusal(shelf, in(minute, 0, 999));
        if (refusal != 0) return refusal;
        int men = once[0], found = NOT;
        for (int m = 6; m >= 1; m--) {
            once[0] = m;
            if (cracksAt(shelf, 0, minute) == NOT) found = m;
        }
        once[0] = men;
        return found;
    }

    public int van(int shelf, int minute) {
        int refusal = refusal(shelf, in(minute, 0, 999));
        if (refusal != 0) return refusal;
        for (int p = 0; p < street.size(); p++) if (cracksAt(shelf, p, minute) == NOT) return p;
        return NOT;
    }

    public int windFrom(int shelf, int minute) {
        int refusal = refusal(shelf, in(minute, 0, 999));
        if (refusal != 0) return refusal;
        int found = NOT;
        for (int x = 30; x >= 0; x--) {
            moreGust = x;
            if (cracksAt(shelf, 0, minute) != NOT) found = x;
        }
        moreGust = 0;
        return found;
    }

    public int scratchFor(int shelf, int minute) {
        int refusal = refusal(shelf, in(minute, 0, 999));
        if (refusal != 0) return refusal;
        int scratch = once[2], found = NOT;
        for (int s = 0; s <= 99; s++) {
            once[2] = s;
            if (cracksAt(shelf, 0, minute) == NOT) found = s;
        }
        once[2] = scratch;
        return found;
    }

    // ---- people, costs

    private static long part(BigInteger[] fraction, int part) {
        return fraction[part].divide(fraction[0].gcd(fraction[1])).longValueExact();
    }

    private BigInteger[] likely(int watched, int fewer) {
        BigInteger[] f = {BigInteger.ONE, BigInteger.ONE};
        for (int p = 0; p < street.size(); p++) {
            int people = p == watched ? 0 : Math.max(0, street.get(p)[5] - fewer);
            f[0] = f[0].multiply(BigInteger.valueOf(12 - people));
            f[1] = f[1].multiply(BigInteger.valueOf(12));
        }
        return f;
    }

    public long free(int part) {
        if (!in(part, 0, 1)) return LONG_BAD;
        return street.isEmpty() ? STATE : part(likely(-1, 0), part);
    }

    public long watch(int part) {
        if (!in(part, 0, 2)) return LONG_BAD;
        if (street.isEmpty()) return STATE;
        int best = street.size() - 1;
        for (int p = best; p >= 0; p--) if (likely(p, 0)[0].compareTo(likely(best, 0)[0]) >= 0) best = p;
        return part == 2 ? best : part(likely(best, 0), part);
    }

    public long earlier(int n, int part) {
        if (!in(n, 0, 12) || !in(part, 0, 1)) return LONG_BAD;
        if (street.isEmpty()) return STATE;
        BigInteger[] then = likely(-1, n);
        then[0] = then[0].subtract(likely(-1, 0)[0]);
        return part(then, part);
    }

    public long cost(int shelf, int minute, int part) {
        int refusal = refusal(shelf, in(minute, 0, 999) && in(part, 0, 1));
        if (refusal != 0) return refusal == STATE ? STATE : LONG_BAD;
        BigInteger[] f = likely(-1, 0);
        if (cracksAt(shelf, 0, minute) != NOT) f[0] = BigInteger.ZERO;
        f[0] = f[1].subtract(f[0]).multiply(BigInteger.valueOf(once[3]));
        return part(f, part);
    }

    // ---- walks seen, draws

    private int[] always(int h) {
        int[] held = new int[12];
        java.util.Arrays.fill(held, h);
        return held;
    }

    private int unlike(int shelf, int minute, int h) {
        byte[] row = (byte[]) shelves[shelf];
        List<Integer> all = allStrains(always(h), 0, minute);
        for (int i = 0; i < row.length; i++) {
            if (i >= all.size() || row[i] != Math.min(120, all.get(i))) return i;
        }
        return NOT;
    }

    public long begun(int shelf, int h) {
        int refusal = refusal(shelf, in(h, 0, 3));
        if (refusal != 0) return refusal == STATE ? STATE : LONG_BAD;
        BigInteger bits = BigInteger.ZERO;
        for (int m = 0; m < 60; m++) if (unlike(shelf, m, h) == NOT) bits = bits.setBit(m);
        return bits.longValueExact();
    }

    public int judge(int shelf, int mh) {
        int refusal = refusal(shelf, in(mh, 0, 9999) && mh % 10 <= 3);
        return refusal != 0 ? refusal : unlike(shelf, mh / 10, mh % 10);
    }

    public int drawn(int seed, int nh, int what) {
        if (!in(nh, 10, 309) || nh % 10 > 3 || !in(what, 0, 1)) return BAD;
        if (street.isEmpty()) return STATE;
        int z = seed, there = 0, passed = 0;
        for (int i = 0; i < nh / 10; i++) {
            List<Integer> all = allStrains(always(nh % 10), 0, 7 * i);
            int p = 0;
            for (; p < street.size(); p++) {
                z = (int) (z * 1103515245L + 12345L);
                int left = (int) (((z & 0xffffffffL) >> 8) % 12);
                if (left < street.get(p)[5] || all.get(p) > limit()) break;
            }
            passed += p;
            if (p == street.size()) there++;
        }
        return what == 0 ? there : passed;
    }

    // ---- in deed

    public int out(int minute, int h) {
        if (!in(minute, 0, 999) || !in(h, 0, 3)) return BAD;
        if (deed.on || street.isEmpty()) return STATE;
        if (h > street.get(0)[6]) return NOT;
        deed.on = true;
        deed.place = 0;
        deed.minute = minute;
        deed.all = strains(0, h, minute);
        deed.held = h;
        return judged();
    }

    private int judged() {
        if (deed.all > limit()) {
            deed.on = false;
            deed.cracked++;
            return 0;
        }
        if (deed.place == street.size() - 1) {
            deed.on = false;
            deed.arrived++;
            int left = limit() - deed.all;
            deed.least = deed.least == null ? left : Integer.valueOf(Math.min(deed.least, left));
        }
        return 1;
    }

    private int minuteOn(int place, int h) {
        if (!in(h, 0, 3)) return BAD;
        if (!deed.on) return STATE;
        return h > street.get(place)[6] ? NOT : 1;
    }

    public int pace(int h) {
        int may = minuteOn(deed.on ? deed.place + 1 : 0, h);
        if (may != 1) return may;
        deed.paces++;
        deed.place++;
        deed.minute++;
        deed.all += strains(deed.place, h, deed.minute) + (h != deed.held ? 1 : 0);
        deed.held = h;
        return judged();
    }

    public int rest(int h) {
        int may = minuteOn(deed.place, h);
        if (may != 1) return may;
        deed.rests++;
        deed.minute++;
        deed.all += strains(deed.place, h, deed.minute) + (h != deed.held ? 1 : 0);
        if (blows(deed.place, deed.minute) == 0) deed.all = Math.max(0, deed.all - 3);
        deed.held = h;
        return judged();
    }

    public int led(int what) {
        int[] told = {deed.arrived, deed.cracked, deed.paces, deed.rests, deed.least == null ? VOID : deed.least,
            deed.on ? deed.place : NOT, deed.on ? deed.all : 0};
        return in(what, 0, 6) ? told[what] : BAD;
    }

    public int image() {
        kept = deed.copy();
        return kept.arrived;
    }

    public int back() {
        if (kept == null) return STATE;
        deed = kept.copy();
        return deed.arrived;
    }

    public int undo() {
        if (toUndo.isEmpty()) return STATE;
        Change change = toUndo.removeLast();
        change.where[change.i] = change.was;
        toRedo.addLast(change);
        return toUndo.size();
    }

    public int redo() {
        if (toRedo.isEmpty()) return STATE;
        Change change = toRedo.removeLast();
        change.where[change.i] = change.became;
        toUndo.addLast(change);
        return toRedo.size();
    }

    // ---- acts, shelves

    public int body(int kind) {
        if (!in(kind, 0, 7)) return BAD;
        if (bodies.size() == 50) return FULL;
        bodies.add(SlowActs.made(kind, bodies.size()));
        return bodies.size() - 1;
    }

    public int act(int body, int act, int x) {
        SlowActs.ran.clear();
        int v = in(body, 0, bodies.size() - 1) && in(act, 0, 3) ? SlowActs.act(bodies.get(body), act, x) : 0;
        ran = new ArrayList<>(SlowActs.ran);
        return v;
    }

    public int trace(int i) {
        return in(i, 0, Math.min(24, ran.size()) - 1) ? ran.get(i) : BAD;
    }

    public int keep(int shelf, int body) {
        if (!in(shelf, 0, 5) || !in(body, -1, bodies.size() - 1)) return BAD;
        shelves[shelf] = body < 0 ? null : bodies.get(body);
        return 1;
    }

    public int row(int shelf, int sort, int n) {
        if (!in(shelf, 0, 5) || !in(sort, 0, 4) || n > 60) return BAD;
        try {
            Object[] rows = {new byte[n], new short[n], new int[n], new long[n], new boolean[n]};
            shelves[shelf] = rows[sort];
            return 1;
        } catch (NegativeArraySizeException e) {
            return -14;
        }
    }

    public int put(int shelf, int i, long v) {
        if (!in(shelf, 0, 5)) return BAD;
        try {
            Object row = shelves[shelf];
            if (row == null) return -11;
            if (row instanceof byte[]) ((byte[]) row)[i] = (byte) v;
            else if (row instanceof short[]) ((short[]) row)[i] = (short) v;
            else if (row instanceof int[]) ((int[]) row)[i] = (int) v;
            else if (row instanceof long[]) ((long[]) row)[i] = v;
            else ((boolean[]) row)[i] = v != 0;
            return 1;
        } catch (ClassCastException e) {
            return -12;
        } catch (ArrayIndexOutOfBoundsException e) {
            return -13;
        }
    }

    public long element(int shelf, int i) {
        if (!in(shelf, 0, 5)) return LONG_BAD;
        try {
            Object row = shelves[shelf];
            if (row instanceof boolean[]) return ((boolean[]) row)[i] ? 1 : 0;
            return row instanceof long[] ? ((long[]) row)[i] : java.lang.reflect.Array.getInt(row, i);
        } catch (RuntimeException e) {
            return LONG_BAD;
        }
    }

    public int shift(int shelf, int i, int other, int j, int n) {
        if (!in(shelf, 0, 5) || !in(other, 0, 5)) return BAD;
        try {
            System.arraycopy(shelves[shelf], i, shelves[other], j, n);
            return n;
        } catch (NullPointerException e) {
            return -11;
        } catch (ArrayStoreException e) {
            return -12;
        } catch (IndexOutOfBoundsException e) {
            return -13;
        }
    }

    public int taken(int shelf, int k) {
        if (!in(shelf, 0, 5) || !in(k, 0, 7)) return BAD;
        if (shelves[shelf] == null) return -11;
        try {
            return ((SlowActs.Pace) SlowActs.classOf(k).cast(shelves[shelf])).kind;
        } catch (ClassCastException e) {
            return -12;
        }
    }

    public int count(int what) {
        int[] counts = {street.size(), tape.length(), toUndo.size(), bodies.size(), ran.size()};
        return in(what, 0, 4) ? counts[what] : BAD;
    }
}
