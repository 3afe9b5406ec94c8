import java.util.Arrays;

/** A pane that is carried across the street, from the van to the shop. */
public final class PaneAcross {
    public static final int BAD = -1, NOT = -2, FULL = -3, STATE = -5, VOID = -2000000000;

    private static final int NOTHING_THERE = -11, OTHER_KIND = -12, NO_SUCH_PLACE = -13, SIZE_BELOW_0 = -14;
    private static final int NO_REFUSAL = 0;

    private static final int MOST_PLACES = 12, FLATTEST = 3, WAYS_HELD = 4, TWELVE_MINUTES = 12;
    private static final int LAST_MINUTE = 999, LAST_MINUTE_OF_WIND = 9999, MINUTES_TO_CHOOSE = 60;
    private static final int MOST_MEN = 6, MOST_GUST = 30, MOST_SCRATCH = 99, STRENGTH_OF_A_SCRATCH = 5;

    private static final int GUST = 0, CALM = 1, EVERY = 2, LASTS = 3, KERB = 4, PEOPLE = 5, NARROW = 6;
    private static final int MEN = 7, STRENGTH = 8, SCRATCH = 9, PANE = 10;
    private static final int NUMBERS_OF_A_PLACE = 7, NUMBERS_OF_ALL = 4;
    private static final int[] LOWEST = {0, 0, 1, 0, 0, 0, 0, 1, 0, 0, 0};
    private static final int[] HIGHEST = {30, 30, 60, 60, 9, 12, 3, 6, 999, 99, 999};

    private static final int SHELVES = 6, MOST_ELEMENTS = 60;
    private static final int BYTES = 0, SHORTS = 1, INTS = 2, LONGS = 3, BOOLEANS = 4;
    private static final int HOLDS_NOTHING = -2, HOLDS_A_PACE = -1;

    private final Street street;
    private final Changes changes;
    private final Law rule;
    private final Strains strains;
    private final Walks walks;
    private final Chances chances;
    private final Deeds deeds;
    private final Paces paces;
    private final Shelf[] shelves;

    public PaneAcross() {
        Street newStreet = new Street();
        Law newRule = new Law();
        Strains newStrains = new Strains(newStreet, newRule);
        Shelf[] newShelves = new Shelf[SHELVES];
        for (int i = 0; i < newShelves.length; i++) newShelves[i] = new Shelf();
        street = newStreet;
        changes = new Changes();
        rule = newRule;
        strains = newStrains;
        walks = new Walks(newStreet, newStrains);
        chances = new Chances(newStreet);
        deeds = new Deeds(newStreet, newStrains);
        paces = new Paces();
        shelves = newShelves;
    }

    // ---- places, men

    public int place(int gust, int people) {
        if (!isAsSaid(GUST, gust) || !isAsSaid(PEOPLE, people)) return BAD;
        return street.add(gust, 0, people);
    }

    public int places(int shelf, int i, int n) {
        Shelf row = shelfAt(shelf);
        // No range is told for i: where the row has no such place it is missing, and none came.
        if (row == null || !isWithin(n, 1, MOST_PLACES)) return BAD;
        if (row.isEmpty()) return 0;
        if (!row.holdsBytes()) return OTHER_KIND;
        int came = 0, at = i;
        while (came < n && row.left(at) >= 3 && addFrom(row, at)) {
            came++;
            at += 3;
        }
        return came;
    }

    private boolean addFrom(Shelf row, int i) {
        int gust = (int) row.cell(i), kerb = (int) row.cell(i + 1), people = (int) row.cell(i + 2);
        if (!isAsSaid(GUST, gust) || !isAsSaid(KERB, kerb) || !isAsSaid(PEOPLE, people)) return false;
        return street.add(gust, kerb, people) >= 0;
    }

    public int mend(int number, int what, int v) {
        int slot = street.slotOf(number, what);
        if (slot < 0 || !isAsSaid(what, v)) return BAD;
        int was = street.read(slot);
        if (was != v) {
            changes.note(slot, was, v);
            street.write(slot, v);
        }
        return was;
    }

    public int of(int number, int what) {
        int slot = street.slotOf(number, what);
        return slot < 0 ? BAD : street.read(slot);
    }

    public int wind(int place, int minute) {
        if (!street.has(place) || !isWithin(minute, 0, LAST_MINUTE_OF_WIND)) return BAD;
        return street.windIn(place, minute);
    }

    public int feed(int letter) {
        if (!isWithin(letter, 0, 255)) return BAD;
        return rule.take(letter);
    }

    public int law() {
        int fault = rule.readTape();
        return fault < 0 ? 1 : -100 - fault;
    }

    public int strain(int ph, int minute) {
        int place = ph / 10, h = ph % 10;
        if (!street.has(place) || !isHold(h) || !isWithin(minute, 0, LAST_MINUTE_OF_WIND)) return BAD;
        strains.supposeNow();
        return strains.inMinute(place, h, minute);
    }

    // ---- walks in thought

    public int walk(int shelf, int minute, int what) {
        Shelf row = shelfAt(shelf);
        if (row == null || !isMinute(minute) || !isWithin(what, 0, 2)) return BAD;
        int refusal = walkRefused(row);
        if (refusal != NO_REFUSAL) return refusal;
        if (what == 2) return walks.passes(row) ? 1 : 0;
        strains.supposeNow();
        walks.follow(row, 0, minute);
        return what == 0 ? walks.crackedAt : walks.greatest;
    }

    public int start(int shelf, int what) {
        Shelf row = shelfAt(shelf);
        if (row == null || !isWithin(what, 0, 1)) return BAD;
        int refusal = walkRefused(row);
        if (refusal != NO_REFUSAL) return refusal;
        int minute = walks.bestStart(row);
        return what == 0 ? minute : walks.greatest;
    }

    public long hold(int minute, int what) {
        if (!isMinute(minute) || !isWithin(what, 0, 2)) return Long.MIN_VALUE;
        if (street.places == 0) return STATE;
        walks.lookAhead(minute);
        if (what == 0) return walks.bestHold();
        int all = walks.leastAhead(0, -1);
        if (what == 1) return all;
        // Without rests nothing is ever taken off again: the end is the most there is.
        return strains.isTooMuch(all) ? 1 : 0;
    }

    public int soonest(int minute) {
        if (!isMinute(minute)) return BAD;
        return street.places == 0 ? STATE : walks.fewestMinutes(minute);
    }

    public int safest(int minute, int n) {
        if (!isMinute(minute) || !isWithin(n, 0, 60)) return BAD;
        return street.places == 0 ? STATE : walks.leastWithin(minute, n);
    }

    public int menFor(int shelf, int minute) {
        Shelf row = shelfAt(shelf);
        if (row == null || !isMinute(minute)) return BAD;
        int refusal = walkRefused(row);
        return refusal != NO_REFUSAL ? refusal : walks.fewestMen(row, minute);
    }

    public int van(int shelf, int minute) {
        Shelf row = shelfAt(shelf);
        if (row == null || !isMinute(minute)) return BAD;
        int refusal = walkRefused(row);
        return refusal != NO_REFUSAL ? refusal : walks.nearestVan(row, minute);
    }

    public int windFrom(int shelf, int minute) {
        Shelf row = shelfAt(shelf);
        if (row == null || !isMinute(minute)) return BAD;
        int refusal = walkRefused(row);
        return refusal != NO_REFUSAL ? refusal : walks.leastMoreGust(row, minute);
    }

    public int scratchFor(int shelf, int minute) {
        Shelf row = shelfAt(shelf);
        if (row == null || !isMinute(minute)) return BAD;
        int refusal = walkRefused(row);
        return refusal != NO_REFUSAL ? refusal : walks.greatestScratch(row, minute);
    }

    // ---- people, costs

    public long free(int part) {
        if (!isWithin(part, 0, 1)) return Long.MIN_VALUE;
        if (street.places == 0) return STATE;
        return Chances.partOf(chances.freeWays(-1, 0), chances.allWays(), part);
    }

    public long watch(int part) {
        if (!isWithin(part, 0, 2)) return Long.MIN_VALUE;
        if (street.places == 0) return STATE;
        int place = chances.bestWatched();
        return part == 2 ? place : Chances.partOf(chances.freeWays(place, 0), chances.allWays(), part);
    }

    public long earlier(int n, int part) {
        if (!isWithin(n, 0, TWELVE_MINUTES) || !isWithin(part, 0, 1)) return Long.MIN_VALUE;
        if (street.places == 0) return STATE;
        long more = chances.freeWays(-1, n) - chances.freeWays(-1, 0);
        return Chances.partOf(more, chances.allWays(), part);
    }

    public long cost(int shelf, int minute, int part) {
        Shelf row = shelfAt(shelf);
        if (row == null || !isMinute(minute) || !isWithin(part, 0, 1)) return Long.MIN_VALUE;
        int refusal = walkRefused(row);
        if (refusal != NO_REFUSAL) return longRefusal(refusal);
        long pane = street.number(0, PANE);
        strains.supposeNow();
        walks.follow(row, 0, minute);
        if (walks.crackedAt != NOT) return part == 0 ? pane : 1;
        long all = chances.allWays();
        return Chances.partOf(pane * (all - chances.freeWays(-1, 0)), all, part);
    }

    // ---- walks seen, draws

    public long begun(int shelf, int h) {
        Shelf row = shelfAt(shelf);
        if (row == null || !isHold(h)) return Long.MIN_VALUE;
        int refusal = walkRefused(row);
        return refusal != NO_REFUSAL ? longRefusal(refusal) : walks.minutesLike(row, h);
    }

    public int judge(int shelf, int mh) {
        int minute = mh / 10, h = mh % 10;
        Shelf row = shelfAt(shelf);
        if (row == null || !isMinute(minute) || !isHold(h)) return BAD;
        int refusal = walkRefused(row);
        if (refusal != NO_REFUSAL) return refusal;
        strains.supposeNow();
        return walks.firstUnlike(row, minute, h);
    }

    public int drawn(int seed, int nh, int what) {
        int n = nh / 10, h = nh % 10;
        if (!isWithin(n, 1, 30) || !isHold(h) || !isWithin(what, 0, 1)) return BAD;
        if (street.places == 0) return STATE;
        walks.draw(seed, n, h);
        return what == 0 ? walks.cameThere : walks.passedPlaces;
    }

    // ---- in deed

    public int out(int minute, int h) {
        return isMinute(minute) && isHold(h) ? deeds.setOut(minute, h) : BAD;
    }

    public int pace(int h) {
        return isHold(h) ? deeds.goOn(h) : BAD;
    }

    public int rest(int h) {
        return isHold(h) ? deeds.stay(h) : BAD;
    }

    public int led(int what) {
        return deeds.now.told(what);
    }

    public int image() {
        deeds.kept.becomeLike(deeds.now);
        deeds.isKept = true;
        return deeds.now.arrived;
    }

    public int back() {
        if (!deeds.isKept) return STATE;
        deeds.now.becomeLike(deeds.kept);
        return deeds.now.arrived;
    }

    public int undo() {
        if (changes.done == 0) return STATE;
        changes.stepBack(street);
        return changes.done;
    }

    public int redo() {
        if (changes.done >= changes.size) return STATE;
        changes.stepOn(street);
        return changes.size - changes.done;
    }

    // ---- acts, shelves

    public int body(int kind) {
        return isWithin(kind, 0, Paces.KINDS - 1) ? paces.add(kind) : BAD;
    }

    public int act(int body, int act, int x) {
        return paces.perform(body, act, x);
    }

    public int trace(int i) {
        return paces.ranAs(i);
    }

    public int keep(int shelf, int body) {
        Shelf one = shelfAt(shelf);
        if (one == null || body != -1 && !paces.has(body)) return BAD;
        one.holdBody(body);
        return 1;
    }

    public int row(int shelf, int sort, int n) {
        Shelf one = shelfAt(shelf);
        if (one == null || !isWithin(sort, BYTES, BOOLEANS) || n > MOST_ELEMENTS) return BAD;
        if (n < 0) return SIZE_BELOW_0;
        one.holdRow(sort, n);
        return 1;
    }

    public int put(int shelf, int i, long v) {
        Shelf row = shelfAt(shelf);
        if (row == null) return BAD;
        int refusal = elementRefused(row, i);
        if (refusal != NO_REFUSAL) return refusal;
        row.write(i, v);
        return 1;
    }

    public long element(int shelf, int i) {
        Shelf row = shelfAt(shelf);
        return row == null || elementRefused(row, i) != NO_REFUSAL ? Long.MIN_VALUE : row.cell(i);
    }

    public int shift(int shelf, int i, int other, int j, int n) {
        Shelf from = shelfAt(shelf), to = shelfAt(other);
        if (from == null || to == null) return BAD;
        if (from.isEmpty() || to.isEmpty()) return NOTHING_THERE;
        if (!from.holdsRow() || from.holds != to.holds) return OTHER_KIND;
        if (n < 0 || i < 0 || j < 0 || from.left(i) < n || to.left(j) < n) return NO_SUCH_PLACE;
        System.arraycopy(from.cells, i, to.cells, j, n);
        return n;
    }

    public int taken(int shelf, int k) {
        Shelf one = shelfAt(shelf);
        if (one == null || !isWithin(k, 0, Paces.KINDS - 1)) return BAD;
        if (one.isEmpty()) return NOTHING_THERE;
        if (one.holdsRow()) return OTHER_KIND;
        int kind = paces.kindOf(one.body);
        return Paces.isUnder(kind, k) ? kind : OTHER_KIND;
    }

    public int count(int what) {
        switch (what) {
            case 0: return street.places;
            case 1: return rule.fed;
            case 2: return changes.done;
            case 3: return paces.bodies;
            case 4: return paces.ran;
            default: return BAD;
        }
    }

    // ---- what is asked ahead of the calls

    private static boolean isWithin(int v, int least, int most) {
        return v >= least && v <= most;
    }

    private static boolean isMinute(int minute) {
        return isWithin(minute, 0, LAST_MINUTE);
    }

    private static boolean isHold(int h) {
        return isWithin(h, 0, FLATTEST);
    }

    private static boolean isAsSaid(int what, int v) {
        if (what < 0 || what >= LOWEST.length || what >= HIGHEST.length) return false;
        return isWithin(v, LOWEST[what], HIGHEST[what]);
    }

    private Shelf shelfAt(int shelf) {
        return shelf >= 0 && shelf < shelves.length ? shelves[shelf] : null;
    }

    private int walkRefused(Shelf row) {
        if (row.isEmpty()) return NOTHING_THERE;
        if (!row.holdsBytes()) return OTHER_KIND;
        return street.places == 0 ? STATE : NO_REFUSAL;
    }

    private static long longRefusal(int refusal) {
        return refusal == STATE ? STATE : Long.MIN_VALUE;
    }

    private static int elementRefused(Shelf row, int i) {
        if (row.isEmpty()) return NOTHING_THERE;
        if (!row.holdsRow()) return OTHER_KIND;
        return i < 0 || row.left(i) < 1 ? NO_SUCH_PLACE : NO_REFUSAL;
    }

    /** The numbers of all PLACES in one row with those that are told once, so that a change is a slot of it. */
    private static final class Street {
        private static final int ONCE = MOST_PLACES * NUMBERS_OF_A_PLACE;

        private final int[] numbers = new int[ONCE + NUMBERS_OF_ALL];
        int places;

        Street() {
            numbers[ONCE + MEN - MEN] = 2;
            numbers[ONCE + STRENGTH - MEN] = 99;
            numbers[ONCE + SCRATCH - MEN] = 0;
            numbers[ONCE + PANE - MEN] = 400;
        }

        boolean has(int place) {
            return place >= 0 && place < places;
        }

        int add(int gust, int kerb, int people) {
            if (places >= MOST_PLACES) return FULL;
            int first = places * NUMBERS_OF_A_PLACE;
            write(first + GUST, gust);
            write(first + CALM, 0);
            write(first + EVERY, 10);
            write(first + LASTS, 2);
            write(first + KERB, kerb);
            write(first + PEOPLE, people);
            write(first + NARROW, FLATTEST);
            return places++;
        }

        int slotOf(int number, int what) {
            if (isWithin(what, GUST, NARROW)) return has(number) ? number * NUMBERS_OF_A_PLACE + what : -1;
            return isWithin(what, MEN, PANE) && number == 0 ? ONCE + what - MEN : -1;
        }

        int read(int slot) {
            return slot >= 0 && slot < numbers.length ? numbers[slot] : 0;
        }

        void write(int slot, int v) {
            if (slot >= 0 && slot < numbers.length) numbers[slot] = v;
        }

        /** As of slotOf(), for numbers that are known to be there: it is asked in every minute of every walk. */
        int number(int number, int what) {
            int slot = what < MEN ? number * NUMBERS_OF_A_PLACE + what : ONCE + what - MEN;
            return slot >= 0 && slot < numbers.length ? numbers[slot] : 0;
        }

        boolean isGusty(int place, int minute) {
            int every = number(place, EVERY);
            return every > 0 && minute % every < number(place, LASTS);
        }

        int windIn(int place, int minute) {
            return isGusty(place, minute) ? number(place, GUST) : number(place, CALM);
        }
    }

    /** The latest changes of the street's numbers: those ahead of 'done' may be undone, the others done again. */
    private static final class Changes {
        private static final int MOST = 40;

        private final int[] slots = new int[MOST], were = new int[MOST], became = new int[MOST];
        int size, done;

        void note(int slot, int was, int becomes) {
            if (done >= MOST) dropOldest();
            if (done < 0 || done >= MOST) return;
            slots[done] = slot;
            were[done] = was;
            became[done] = becomes;
            done++;
            size = done;
        }

        private void dropOldest() {
            System.arraycopy(slots, 1, slots, 0, MOST - 1);
            System.arraycopy(were, 1, were, 0, MOST - 1);
            System.arraycopy(became, 1, became, 0, MOST - 1);
            done = MOST - 1;
        }

        void stepBack(Street street) {
            if (done < 1 || done > MOST) return;
            done--;
            street.write(slots[done], were[done]);
        }

        void stepOn(Street street) {
            if (done < 0 || done >= size || done >= MOST) return;
            street.write(slots[done], became[done]);
            done++;
        }
    }

    /** THE TAPE, and THE LAW as steps over a pile of numbers, so that a text is read once and worked out often. */
    private static final class Law {
        private static final int MOST_FED = 120, MOST_STEPS = 128, MOST_OPEN = 6, MOST_DIGITS = 4;
        private static final int LOOSEST = 0, COMPARISONS = 2, TIGHTEST = 4;
        private static final char NUMBER = '0', NAME = 'n', NEGATE = '~', SKIP_IF_0 = '?', GIVE = ';';

        private final int[] tape = new int[MOST_FED];
        int fed;
        private final int[] steps = new int[MOST_STEPS], values = new int[MOST_STEPS];
        private int length;
        // A text with a fault must leave the law that holds as it is: it is read into these first.
        private final int[] newSteps = new int[MOST_STEPS], newValues = new int[MOST_STEPS];
        private int newLength;
        private int at, fault;
        private final int[] pile = new int[MOST_STEPS];
        private int piled;

        boolean isTold() {
            return length > 0;
        }

        int take(int letter) {
            if (fed < 0 || fed >= MOST_FED) return FULL;
            tape[fed] = letter;
            fed++;
            return fed;
        }

        /** The FAULT, or -1. */
        int readTape() {
            at = 0;
            fault = -1;
            newLength = 0;
            readLine();
            for (int n = 0; n < MOST_FED && fault < 0 && next() == ';'; n++) {
                at++;
                readLine();
            }
            if (fault < 0 && at < fed) fault = at;
            fed = 0;
            if (fault >= 0) return fault;
            System.arraycopy(newSteps, 0, steps, 0, MOST_STEPS);
            System.arraycopy(newValues, 0, values, 0, MOST_STEPS);
            length = newLength;
            return -1;
        }

        private void readLine() {
            readBinary(LOOSEST, 0);
            if (fault < 0 && next() == '?') {
                at++;
                addStep(SKIP_IF_0, 0);
                readBinary(LOOSEST, 0);
            }
            addStep(GIVE, 0);
        }

        private void readBinary(int level, int open) {
            if (level > TIGHTEST) {
                readOperand(open);
                return;
            }
            readBinary(level + 1, open);
            for (int n = 0; n < MOST_FED && fault < 0 && levelOf(next()) == level; n++) {
                int sign = next();
                at++;
                readBinary(level + 1, open);
                addStep(sign, 0);
                if (level == COMPARISONS) return;
            }
        }

        private void readOperand(int open) {
            int c = next();
            if (isDigit(c)) {
                readNumber();
            } else if (nameOf(c) >= 0) {
                at++;
                addStep(NAME, nameOf(c));
            } else if (open < MOST_OPEN && (c == '!' || c == '-')) {
                at++;
                readOperand(open + 1);
                addStep(c == '!' ? '!' : NEGATE, 0);
            } else if (open < MOST_OPEN && c == '(') {
                at++;
                readBinary(LOOSEST, open + 1);
                if (fault >= 0) return;
                if (next() == ')') at++;
                else fault = at;
            } else {
                fault = at;
            }
        }

        private void readNumber() {
            int v = 0;
            for (int n = 0; n < MOST_DIGITS && isDigit(next()); n++) {
                v = v * 10 + next() - '0';
                at++;
            }
            addStep(NUMBER, v);
        }

        private int next() {
            return at >= 0 && at < fed && at < MOST_FED ? tape[at] : -1;
        }

        private void addStep(int step, int value) {
            if (newLength < 0 || newLength >= MOST_STEPS) return;
            newSteps[newLength] = step;
            newValues[newLength] = value;
            newLength++;
        }

        private static boolean isDigit(int c) {
            return c >= '0' && c <= '9';
        }

        private static int nameOf(int c) {
            switch (c) {
                case 'w': return 0;
                case 'h': return 1;
                case 'm': return 2;
                case 'k': return 3;
                case 's': return 4;
                case 'p': return 5;
                default: return -1;
            }
        }

        private static int levelOf(int c) {
            switch (c) {
                case '|': return LOOSEST;
                case '&': return 1;
                case '<': case '=': case '>': return COMPARISONS;
                case '+': case '-': return 3;
                case '*': case '/': case '%': return TIGHTEST;
                default: return -1;
            }
        }

        /** What counts, by what the NAMES stand for in the order w h m k s p. */
        int worth(int[] names) {
            piled = 0;
            boolean isSkipped = false;
            for (int i = 0; i < length && i < MOST_STEPS; i++) {
                int step = steps[i], value = values[i];
                if (step == NUMBER) {
                    push(value);
                } else if (step == NAME) {
                    push(value >= 0 && value < names.length ? names[value] : 0);
                } else if (step == SKIP_IF_0) {
                    isSkipped = pop() == 0;
                } else if (step == GIVE) {
                    int v = pop();
                    if (!isSkipped) return v;
                    isSkipped = false;
                } else {
                    int b = pop();
                    if (step == NEGATE) push(-b);
                    else if (step == '!') push(b == 0 ? 1 : 0);
                    else push(both(step, pop(), b));
                }
            }
            return 0;
        }

        private static int both(int sign, int a, int b) {
            switch (sign) {
                case '|': return a != 0 || b != 0 ? 1 : 0;
                case '&': return a != 0 && b != 0 ? 1 : 0;
                case '<': return a < b ? 1 : 0;
                case '=': return a == b ? 1 : 0;
                case '>': return a > b ? 1 : 0;
                case '+': return a + b;
                case '-': return a - b;
                case '*': return a * b;
                case '/': return b == 0 ? 0 : a / b;
                case '%': return b == 0 ? 0 : a % b;
                default: return 0;
            }
        }

        private void push(int v) {
            if (piled < 0 || piled >= MOST_STEPS) return;
            pile[piled] = v;
            piled++;
        }

        private int pop() {
            if (piled < 1 || piled > MOST_STEPS) return 0;
            piled--;
            return pile[piled];
        }
    }

    /** The STRAIN of minutes as it would be with so many MEN, such a SCRATCH, so much more GUST. */
    private static final class Strains {
        private static final int MOST_STRAIN = 99, UNKNOWN = -1;

        private final Street street;
        private final Law law;
        private final int[] names = new int[6];
        // A PLACE has but two winds: what the law gives is worked out once for each and for each way to hold.
        private final int[] known = new int[MOST_PLACES * WAYS_HELD * 2];
        private int men, scratch, more, limit;

        Strains(Street street, Law law) {
            this.street = street;
            this.law = law;
        }

        void suppose(int men, int scratch, int more) {
            this.men = men;
            this.scratch = scratch;
            this.more = more;
            limit = street.number(0, STRENGTH) - STRENGTH_OF_A_SCRATCH * scratch;
            Arrays.fill(known, UNKNOWN);
        }

        void supposeNow() {
            suppose(street.number(0, MEN), street.number(0, SCRATCH), 0);
        }

        boolean isTooMuch(int all) {
            return all > limit;
        }

        int left(int all) {
            return limit - all;
        }

        int inMinute(int place, int h, int minute) {
            boolean isGusty = street.isGusty(place, minute);
            int i = (place * WAYS_HELD + h) * 2 + (isGusty ? 1 : 0);
            if (h < 0 || h >= WAYS_HELD || i < 0 || i >= known.length) return 0;
            if (known[i] == UNKNOWN) {
                int wind = isGusty ? street.number(place, GUST) + more : street.number(place, CALM);
                known[i] = workedOut(place, h, wind);
            }
            return known[i];
        }

        private int workedOut(int place, int h, int wind) {
            int kerb = street.number(place, KERB), v;
            if (law.isTold()) {
                names[0] = wind;
                names[1] = h;
                names[2] = men;
                names[3] = kerb;
                names[4] = scratch;
                names[5] = place;
                v = law.worth(names);
            } else {
                v = kerb + (men > 0 ? wind * h / men : 0) + (h == 0 ? wind / 4 : 0);
            }
            return Math.max(0, Math.min(MOST_STRAIN, v));
        }
    }

    /** Walks in thought: told, looked for, seen and drawn ones. */
    private static final class Walks {
        private static final int MOST_MINUTES = 99, MOST_SEEN = 120, EASED = 3, NEVER = -1;
        private static final int TOO_FLAT = 1000000;

        private final Street street;
        private final Strains strains;
        // Least ALL STRAIN from a PLACE, held so, to the end; and with which a PLACE is reached by a minute.
        private final int[] ahead = new int[MOST_PLACES * WAYS_HELD];
        private final int[] reached = new int[MOST_PLACES];
        int crackedAt, greatest;
        int cameThere, passedPlaces;
        private int z;

        Walks(Street street, Strains strains) {
            this.street = street;
            this.strains = strains;
        }

        boolean passes(Shelf row) {
            for (int place = 0; place < street.places; place++) {
                if (row.heldAt(place) > street.number(place, NARROW)) return false;
            }
            return true;
        }

        /** As supposed: where it CRACKS, and the greatest ALL STRAIN, which grows on behind a crack. */
        void follow(Shelf row, int van, int minute) {
            int all = 0, before = row.heldAt(van);
            crackedAt = NOT;
            for (int place = van; place < street.places; place++) {
                int h = row.heldAt(place);
                all += strains.inMinute(place, h, minute + place - van) + (h == before ? 0 : 1);
                if (crackedAt == NOT && strains.isTooMuch(all)) crackedAt = place;
                before = h;
            }
            greatest = all;
        }

        /** The minute; 'greatest' is its walk's then. */
        int bestStart(Shelf row) {
            int best = 0, least = 0;
            strains.supposeNow();
            for (int minute = 0; minute < MINUTES_TO_CHOOSE; minute++) {
                follow(row, 0, minute);
                if (minute == 0 || greatest < least) {
                    best = minute;
                    least = greatest;
                }
            }
            greatest = least;
            return best;
        }

        int fewestMen(Shelf row, int minute) {
            for (int men = 1; men <= MOST_MEN; men++) {
                strains.suppose(men, street.number(0, SCRATCH), 0);
                follow(row, 0, minute);
                if (crackedAt == NOT) return men;
            }
            return NOT;
        }

        int nearestVan(Shelf row, int minute) {
            strains.supposeNow();
            for (int van = 0; van < street.places; van++) {
                follow(row, van, minute);
                if (crackedAt == NOT) return van;
            }
            return NOT;
        }

        int leastMoreGust(Shelf row, int minute) {
            for (int more = 0; more <= MOST_GUST; more++) {
                strains.suppose(street.number(0, MEN), street.number(0, SCRATCH), more);
                follow(row, 0, minute);
                if (crackedAt != NOT) return more;
            }
            return NOT;
        }

        int greatestScratch(Shelf row, int minute) {
            // ALL STRAIN is never below 0, so a limit below 0 need not be tried.
            int most = Math.min(MOST_SCRATCH, street.number(0, STRENGTH) / STRENGTH_OF_A_SCRATCH);
            for (int scratch = most; scratch >= 0; scratch--) {
                strains.suppose(street.number(0, MEN), scratch, 0);
                follow(row, 0, minute);
                if (crackedAt == NOT) return scratch;
            }
            return NOT;
        }

        // ---- how to hold it

        void lookAhead(int minute) {
            strains.supposeNow();
            for (int place = street.places - 1; place >= 0; place--) {
                for (int h = 0; h < WAYS_HELD; h++) {
                    int least = strains.inMinute(place, h, minute + place);
                    if (place + 1 < street.places) least += leastAhead(place + 1, h);
                    setAhead(place, h, h > street.number(place, NARROW) ? TOO_FLAT : least);
                }
            }
        }

        private void setAhead(int place, int h, int v) {
            int i = place * WAYS_HELD + h;
            if (i >= 0 && i < ahead.length) ahead[i] = v;
        }

        /** With the turn from how it was held before; a 'before' of -1 is none. */
        private int turnedAhead(int place, int h, int before) {
            int i = place * WAYS_HELD + h;
            if (i < 0 || i >= ahead.length) return TOO_FLAT;
            return ahead[i] + (before >= 0 && before != h ? 1 : 0);
        }

        int leastAhead(int place, int before) {
            return turnedAhead(place, bestAhead(place, before), before);
        }

        private int bestAhead(int place, int before) {
            int best = 0;
            for (int h = 1; h < WAYS_HELD; h++) {
                if (turnedAhead(place, h, before) < turnedAhead(place, best, before)) best = h;
            }
            return best;
        }

        long bestHold() {
            long digits = 0;
            int before = -1;
            for (int place = 0; place < street.places; place++) {
                before = bestAhead(place, before);
                digits = digits * 10 + before;
            }
            return digits;
        }

        // ---- with rests, edge on

        int fewestMinutes(int minute) {
            for (int t = 0; t <= MOST_MINUTES; t++) {
                reachBy(minute, t);
                if (reachedShop() != NEVER) return t;
            }
            return NOT;
        }

        int leastWithin(int minute, int n) {
            int least = NEVER;
            for (int t = 0; t <= n && t <= MOST_MINUTES; t++) {
                reachBy(minute, t);
                int all = reachedShop();
                if (all != NEVER && (least == NEVER || all < least)) least = all;
            }
            return least == NEVER ? NOT : least;
        }

        private int reachedShop() {
            int last = street.places - 1;
            return last >= 0 && last < reached.length ? reached[last] : NEVER;
        }

        /** Less ALL STRAIN is never worse later on, so the least for each PLACE is enough to go on with. */
        private void reachBy(int minute, int t) {
            if (t == 0) {
                strains.supposeNow();
                Arrays.fill(reached, NEVER);
                reached[0] = borne(0, strains.inMinute(0, 0, minute), 0);
                return;
            }
            int last = Math.min(street.places, reached.length) - 1;
            for (int place = last; place >= 0; place--) {
                int strain = strains.inMinute(place, 0, minute + t);
                int eased = street.windIn(place, minute + t) == 0 ? EASED : 0;
                // In the shop the walk is over: there is no rest there.
                int rested = place == last ? NEVER : borne(reached[place], strain, eased);
                int paced = place == 0 ? NEVER : borne(reached[place - 1], strain, 0);
                reached[place] = rested == NEVER || paced != NEVER && paced < rested ? paced : rested;
            }
        }

        private int borne(int before, int strain, int eased) {
            if (before == NEVER) return NEVER;
            int all = Math.max(0, before + strain - eased);
            return strains.isTooMuch(all) ? NEVER : all;
        }

        // ---- seen, drawn

        long minutesLike(Shelf row, int h) {
            long bits = 0;
            strains.supposeNow();
            for (int minute = 0; minute < MINUTES_TO_CHOOSE; minute++) {
                if (firstUnlike(row, minute, h) == NOT) bits |= 1L << minute;
            }
            return bits;
        }

        int firstUnlike(Shelf row, int minute, int h) {
            int all = 0;
            for (int i = 0; i < row.length; i++) {
                if (i >= street.places) return i;
                all += strains.inMinute(i, h, minute + i);
                if (row.cell(i) != Math.min(MOST_SEEN, all)) return i;
            }
            return NOT;
        }

        void draw(int seed, int n, int h) {
            strains.supposeNow();
            z = seed;
            cameThere = 0;
            passedPlaces = 0;
            for (int i = 0; i < n; i++) drawOne(7 * i, h);
        }

        private void drawOne(int minute, int h) {
            int all = 0;
            for (int place = 0; place < street.places; place++) {
                z = z * 1103515245 + 12345;
                if ((z >>> 8) % TWELVE_MINUTES < street.number(place, PEOPLE)) return;
                all += strains.inMinute(place, h, minute + place);
                if (strains.isTooMuch(all)) return;
                passedPlaces++;
            }
            cameThere++;
        }
    }

    /** How likely nobody walks into it: ways of twelve minutes at each PLACE, out of all. */
    private static final class Chances {
        private final Street street;

        Chances(Street street) {
            this.street = street;
        }

        long allWays() {
            long all = 1;
            for (int place = 0; place < street.places; place++) all *= TWELVE_MINUTES;
            return all;
        }

        long freeWays(int watched, int fewer) {
            long ways = 1;
            for (int place = 0; place < street.places; place++) {
                int people = Math.max(0, street.number(place, PEOPLE) - fewer);
                if (place != watched) ways *= TWELVE_MINUTES - people;
                else ways *= TWELVE_MINUTES;
            }
            return ways;
        }

        int bestWatched() {
            int best = 0;
            for (int place = 1; place < street.places; place++) {
                if (freeWays(place, 0) > freeWays(best, 0)) best = place;
            }
            return best;
        }

        /** In lowest terms: above the line (0), below it (1). */
        static long partOf(long above, long below, int part) {
            long a = above, b = below;
            // Euclid's steps on longs are fewer than a hundred.
            for (int n = 0; n < 200 && b != 0; n++) {
                long left = a % b;
                a = b;
                b = left;
            }
            if (a == 0) return 0;
            return part == 0 ? above / a : below / a;
        }
    }

    /** The walk that is on, and what LED tells. */
    private static final class Led {
        boolean isOn;
        int place, minute, held, all;
        int arrived, cracked, paced, rested, least = VOID;

        void becomeLike(Led other) {
            isOn = other.isOn;
            place = other.place;
            minute = other.minute;
            held = other.held;
            all = other.all;
            arrived = other.arrived;
            cracked = other.cracked;
            paced = other.paced;
            rested = other.rested;
            least = other.least;
        }

        int told(int what) {
            switch (what) {
                case 0: return arrived;
                case 1: return cracked;
                case 2: return paced;
                case 3: return rested;
                case 4: return least;
                case 5: return isOn ? place : NOT;
                case 6: return isOn ? all : 0;
                default: return BAD;
            }
        }
    }

    /** A walk in deed, minute by minute. */
    private static final class Deeds {
        private final Street street;
        private final Strains strains;
        final Led now = new Led(), kept = new Led();
        boolean isKept;

        Deeds(Street street, Strains strains) {
            this.street = street;
            this.strains = strains;
        }

        int setOut(int minute, int h) {
            if (now.isOn || street.places == 0) return STATE;
            if (h > street.number(0, NARROW)) return NOT;
            now.isOn = true;
            now.place = 0;
            now.minute = minute;
            now.held = h;
            now.all = 0;
            return bear(h, false);
        }

        int goOn(int h) {
            if (!now.isOn) return STATE;
            if (h > street.number(now.place + 1, NARROW)) return NOT;
            now.place++;
            now.minute++;
            now.paced++;
            return bear(h, false);
        }

        int stay(int h) {
            if (!now.isOn) return STATE;
            if (h > street.number(now.place, NARROW)) return NOT;
            now.minute++;
            now.rested++;
            return bear(h, true);
        }

        private int bear(int h, boolean isRest) {
            strains.supposeNow();
            int all = now.all + strains.inMinute(now.place, h, now.minute) + (h == now.held ? 0 : 1);
            if (isRest && street.windIn(now.place, now.minute) == 0) all = Math.max(0, all - Walks.EASED);
            now.held = h;
            now.all = all;
            if (strains.isTooMuch(all)) {
                now.isOn = false;
                now.cracked++;
                return 0;
            }
            if (!isRest && now.place == street.places - 1) arrive();
            return 1;
        }

        private void arrive() {
            int left = strains.left(now.all);
            now.isOn = false;
            now.arrived++;
            if (now.least == VOID || left < now.least) now.least = left;
        }
    }

    /** BODIES of KINDS, whose acts come from the KIND itself or from above. */
    private static final class Paces {
        static final int KINDS = 8;
        private static final int MOST = 50, MOST_TRACED = 24, DEEPEST = 40;
        private static final int GOES = 0, STRAINS = 1, LEANS = 2, TELLS = 3, ACTS = 4;
        private static final int[] ABOVE = {-1, 0, 0, 2, 1, 3, 0, 4};
        // By KINDS, each with what it has for goes, strains, leans, tells; 0 is none.
        private static final int[] OWN = {
            1, 10, 11, 2,
            20, 0, 0, 0,
            0, 30, 0, 0,
            0, 41, 40, 0,
            0, 0, 50, 0,
            0, 0, 0, 60,
            70, 0, 0, 0,
            0, 80, 0, 81,
        };

        private final int[] kinds = new int[MOST];
        int bodies;
        private final int[] traced = new int[MOST_TRACED];
        int ran;
        // The one that acts: its acts call one another on it.
        private int self, selfKind;

        boolean has(int body) {
            return body >= 0 && body < bodies && body < MOST;
        }

        int add(int kind) {
            if (bodies < 0 || bodies >= MOST) return FULL;
            kinds[bodies] = kind;
            return bodies++;
        }

        int kindOf(int body) {
            return has(body) ? kinds[body] : -1;
        }

        static boolean isUnder(int kind, int other) {
            int k = kind;
            for (int n = 0; n < KINDS && k >= 0; n++) {
                if (k == other) return true;
                k = above(k);
            }
            return false;
        }

        private static int above(int kind) {
            return kind >= 0 && kind < ABOVE.length ? ABOVE[kind] : -1;
        }

        private static int own(int kind, int act) {
            int i = kind * ACTS + act;
            return kind >= 0 && act >= 0 && act < ACTS && i < OWN.length ? OWN[i] : 0;
        }

        int ranAs(int i) {
            return i >= 0 && i < ran && i < MOST_TRACED ? traced[i] : BAD;
        }

        int perform(int body, int act, int x) {
            ran = 0;
            if (!has(body) || act < GOES || act > TELLS) return 0;
            self = body;
            selfKind = kindOf(body);
            return run(selfKind, act, x, 0);
        }

        private int run(int from, int act, int x, int depth) {
            int kind = from;
            for (int n = 0; n < KINDS && own(kind, act) == 0; n++) kind = above(kind);
            int ownBody = own(kind, act);
            if (ownBody == 0 || depth >= DEEPEST) return 0;
            if (ran < MOST_TRACED) traced[ran] = ownBody;
            ran++;
            return runBody(ownBody, above(kind), x, depth + 1);
        }

        private int runBody(int ownBody, int above, int x, int depth) {
            switch (ownBody) {
                case 1: return x + self;
                case 2: return run(selfKind, STRAINS, x, depth) - run(selfKind, LEANS, 1, depth);
                case 10: return run(selfKind, GOES, x, depth) * 2;
                case 11: return x ^ self;
                case 20: return run(above, GOES, x, depth) + 3;
                case 30: return -run(above, STRAINS, x, depth);
                case 40: return run(above, LEANS, x, depth) * 3;
                case 41: return run(above, STRAINS, x + 1, depth);
                case 50: return run(above, LEANS, x, depth) - run(selfKind, GOES, 2, depth);
                case 60: return run(above, TELLS, x, depth) ^ 5;
                case 70: return run(above, GOES, x, depth) * 2;
                case 80: return run(above, STRAINS, x, depth) + run(selfKind, LEANS, 2, depth);
                case 81: return run(above, TELLS, x, depth) - 1;
                default: return 0;
            }
        }
    }

    /** What a SHELF holds: nothing, a PACE, or a ROW of a sort; its cells serve for every ROW that comes. */
    private static final class Shelf {
        int holds = HOLDS_NOTHING;
        int body, length;
        final long[] cells = new long[MOST_ELEMENTS];

        boolean isEmpty() {
            return holds == HOLDS_NOTHING;
        }

        boolean holdsRow() {
            return holds >= BYTES;
        }

        boolean holdsBytes() {
            return holds == BYTES;
        }

        void holdBody(int newBody) {
            holds = newBody < 0 ? HOLDS_NOTHING : HOLDS_A_PACE;
            body = newBody;
            length = 0;
        }

        void holdRow(int sort, int n) {
            holds = sort;
            length = n;
            Arrays.fill(cells, 0);
        }

        /** How many elements there are from place i on; 0 ahead of the row, below 0 behind its end. */
        int left(int i) {
            return i < 0 ? 0 : length - i;
        }

        long cell(int i) {
            return i >= 0 && i < length && i < cells.length ? cells[i] : 0;
        }

        void write(int i, long v) {
            if (i >= 0 && i < length && i < cells.length) cells[i] = fitted(v);
        }

        private long fitted(long v) {
            switch (holds) {
                case BYTES: return (byte) v;
                case SHORTS: return (short) v;
                case INTS: return (int) v;
                case LONGS: return v;
                default: return v != 0 ? 1 : 0;
            }
        }

        int heldAt(int place) {
            int h = (int) cell(place);
            return isHold(h) ? h : 0;
        }
    }
}
