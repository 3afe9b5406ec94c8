/** Each sentence on people, costs, walks seen and drawn that names an edge: Terms 3 and 4, promises 19 to 25. */
public final class EdgesOfPeopleTest extends Edges {
    private static final long TWELVE_TO_12TH = 8916100448256L, ELEVEN_TO_12TH = 3138428376721L;

    private EdgesOfPeopleTest() {
        super("EdgesOfPeopleTest");
    }

    public static void main(String[] args) {
        EdgesOfPeopleTest test = new EdgesOfPeopleTest();
        test.free();
        test.watch();
        test.watchLikeOnes();
        test.earlier();
        test.parts();
        test.cost();
        test.costOfPanes();
        test.costRefused();
        test.atMost120();
        test.begunMinutes();
        test.begunOtherwise();
        test.begunRefused();
        test.judgedAsFar();
        test.judgeAnswers();
        test.drawnBySeed();
        test.drawnBelowPeople();
        test.drawnTillItCracks();
        test.drawnMinutes();
        test.drawnPlaces();
        test.drawnRefused();
        test.due.end();
    }

    private void isFree(String what, long above, long below) {
        fraction(what, above, x.free(0), below, x.free(1));
    }

    private void free() {
        sentence("FREE: how likely nobody walks into it on a walk without rests: each PLACE one minute: a fraction in lowest terms.");
        int[] belows = {1, 12, 6, 4, 3, 12, 2, 12, 3, 4, 6, 12, 1};
        int[] aboves = {1, 11, 5, 3, 2, 7, 1, 5, 1, 1, 1, 1, 0};
        for (int p = 0; p <= 12; p++) {
            people(p);
            isFree("one PLACE of " + p, aboves[p], belows[p]);
        }
        people(0, 0, 0, 0, 0, 0, 0, 0, 0, 0, 0, 0);
        isFree("surely", 1, 1);
        people(3, 4);
        isFree("9/12 of 8/12", 1, 2);
        people(3, 4, 12);
        isFree("never", 0, 1);
        people(1, 1, 1, 1, 1, 1, 1, 1, 1, 1, 1, 1);
        isFree("eleven of twelve, twelve times", ELEVEN_TO_12TH, TWELVE_TO_12TH);
        people(11, 11, 11, 11, 11, 11, 11, 11, 11, 11, 11, 11);
        isFree("one of twelve, twelve times", 1, TWELVE_TO_12TH);
        strength(0);
        x.mend(0, KERB, 9);
        isFree("cracked or not", 1, TWELVE_TO_12TH);
    }

    private void watched(String what, int place, long above, long below) {
        is(what + ": the PLACE", x.watch(2), place);
        fraction(what, above, x.watch(0), below, x.watch(1));
    }

    private void watch() {
        sentence("WATCH: with one man put before it at one PLACE (PEOPLE count 0 there)");
        people(6);
        watched("one PLACE", 0, 1, 1);
        people(12);
        watched("one crowded PLACE", 0, 1, 1);
        people(3, 4);
        watched("the second", 1, 3, 4);
        people(4, 3);
        watched("the first", 0, 3, 4);
        people(1, 1, 12, 1);
        watched("where nobody gets through", 2, 11 * 11 * 11, 1728);
        people(1, 1, 1, 1, 1, 1, 1, 1, 1, 1, 1, 2);
        watched("the last of twelve", 11, ELEVEN_TO_12TH / 11, TWELVE_TO_12TH / 12);
        is("PEOPLE are as they were", x.of(11, PEOPLE), 2);
    }

    private void watchLikeOnes() {
        sentence("the PLACE by which that is most (of like ones the first); that.");
        people(0, 0);
        watched("nobody anywhere", 0, 1, 1);
        people(0, 5, 5, 4);
        // 7/12 of 8/12.
        watched("two like ones", 1, 7, 18);
        people(7, 0, 7);
        watched("the van and the shop alike", 0, 5, 12);
        people(12, 12);
        watched("never, whatever is watched", 0, 0, 1);
        people(3, 12, 12);
        watched("never, and the first is not crowded", 0, 0, 1);
    }

    private void earlierBy(int n, long above, long below) {
        fraction(n + " fewer", above, x.earlier(n, 0), below, x.earlier(n, 1));
    }

    private void earlier() {
        sentence("EARLIER: were PEOPLE at all PLACES n fewer (0 .. 12; 0 at least): how much likelier: a fraction.");
        people(3);
        earlierBy(0, 0, 1);
        earlierBy(1, 1, 12);
        earlierBy(2, 1, 6);
        earlierBy(3, 1, 4);
        earlierBy(4, 1, 4);
        earlierBy(12, 1, 4);
        people(12);
        earlierBy(0, 0, 1);
        earlierBy(1, 1, 12);
        earlierBy(11, 11, 12);
        earlierBy(12, 1, 1);
        people(0, 0);
        earlierBy(12, 0, 1);
        people(1, 6);
        // 12/12 of 7/12 less 11/12 of 6/12: 18/144; 0 at least in PLACE 0: 96/144 less 66/144.
        earlierBy(1, 1, 8);
        earlierBy(2, 5, 24);
    }

    private void parts() {
        sentence("part 0 above, 1 below the line; Long.MIN_VALUE: BAD; STATE: no PLACES, of all walks");
        int[] wrong = {-1, 2, Integer.MIN_VALUE, Integer.MAX_VALUE};
        for (int places = 0; places <= 1; places++) {
            anew();
            if (places == 1) x.place(0, 6);
            for (int part : wrong) {
                is("free of part " + part, x.free(part), LONG_BAD);
                is("watch of part " + part, x.watch(part == 2 ? 3 : part), LONG_BAD);
                is("earlier of part " + part, x.earlier(0, part), LONG_BAD);
            }
            for (int n : new int[] {-1, 13, Integer.MIN_VALUE, Integer.MAX_VALUE}) {
                is("earlier by " + n, x.earlier(n, 0), LONG_BAD);
                is("earlier by " + n + ", below", x.earlier(n, 1), LONG_BAD);
            }
            for (int part = 0; part <= 1; part++) {
                is("free", x.free(part), places == 0 ? STATE : part + 1);
                is("watch", x.watch(part), places == 0 ? STATE : 1);
                is("earlier", x.earlier(6, part), places == 0 ? STATE : part + 1);
            }
            is("watch where", x.watch(2), places == 0 ? STATE : 0);
        }
        sentence("FREE. STATE.");
        anew();
        is("no PLACES", x.free(0), STATE);
        sentence("WATCH: how likely then (part 0, 1), the PLACE (2). STATE.");
        is("no PLACES", x.watch(2), STATE);
        sentence("EARLIER. STATE.");
        is("no PLACES", x.earlier(0, 1), STATE);
    }

    private void costs(String what, int minute, long above, long below) {
        fraction(what, above, x.cost(0, minute, 0), below, x.cost(0, minute, 1));
    }

    private void cost() {
        sentence("if it CRACKS, else PANE times how likely it is not FREE: a fraction.");
        people(0, 0);
        x.row(0, 0, 2);
        costs("nobody", 0, 0, 1);
        x.mend(1, PEOPLE, 12);
        costs("surely", 0, 400, 1);
        x.mend(1, PEOPLE, 9);
        costs("9/12", 0, 300, 1);
        x.mend(1, PEOPLE, 1);
        costs("400/12", 0, 100, 3);
        x.mend(0, PEOPLE, 1);
        costs("1 - 121/144", 0, 400 * 23 / 16, 9);
        x.mend(0, GUST, 4);
        strength(1);
        costs("at its limit", 0, 400 * 23 / 16, 9);
        strength(0);
        costs("it CRACKS", 0, 400, 1);
        costs("it does not in calm", 2, 400 * 23 / 16, 9);
        costs("1009 is calm, too", 999, 400 * 23 / 16, 9);
        x.mend(1, GUST, 4);
        costs("1000 is gusty", 999, 400, 1);
    }

    private void costOfPanes() {
        sentence("PANE (0 .. 999; 400 at first), if it CRACKS");
        people(5);
        x.row(0, 0, 0);
        for (int pane : new int[] {0, 1, 12, 999}) {
            x.mend(0, PANE, pane);
            int shared = pane % 12 == 0 ? 12 : pane % 3 == 0 ? 3 : 1;
            costs("whole, PANE " + pane, 0, pane * 5 / shared, 12 / shared);
            x.mend(0, KERB, 1);
            strength(0);
            costs("cracked, PANE " + pane, 0, pane, 1);
            x.mend(0, KERB, 0);
        }
        people(11, 11, 11, 11, 11, 11, 11, 11, 11, 11, 11, 11);
        x.row(0, 0, 0);
        x.mend(0, PANE, 999);
        // 999 is 27 times 37, and 27 goes into 12 to the 12th.
        costs("the dearest", 0, 37 * (TWELVE_TO_12TH - 1), TWELVE_TO_12TH / 27);
    }

    private void costRefused() {
        sentence("COST. Long.MIN_VALUE, too: no ROW of bytes; STATE.");
        for (int places = 0; places <= 1; places++) {
            anew();
            if (places == 1) x.place(0, 0);
            x.body(0);
            x.keep(1, 0);
            x.row(5, 0, 0);
            is("nothing", x.cost(0, 0, 0), LONG_BAD);
            is("a PACE", x.cost(1, 0, 0), LONG_BAD);
            for (int sort = 1; sort <= 4; sort++) {
                x.row(2, sort, 3);
                is("a ROW of " + sort, x.cost(2, 0, 0), LONG_BAD);
            }
            for (int shelf : new int[] {-1, 6, Integer.MIN_VALUE, Integer.MAX_VALUE}) is("no SHELF", x.cost(shelf, 0, 0), LONG_BAD);
            for (int part : new int[] {-1, 2, Integer.MIN_VALUE, Integer.MAX_VALUE}) is("no part", x.cost(5, 0, part), LONG_BAD);
            is("minute -1", x.cost(5, -1, 0), LONG_BAD);
            is("minute 1000", x.cost(5, 1000, 0), LONG_BAD);
            for (int part = 0; part <= 1; part++) is("bytes", x.cost(5, 0, part), places == 0 ? STATE : part);
        }
    }

    // ---- walks seen

    private void atMost120() {
        sentence("ALL STRAIN as it was behind each minute of a walk without rests (120 at most)");
        int[][] sums = {{40, 80, 120}, {41, 82, 120}, {39, 78, 117}, {60, 120, 120}, {61, 120, 120}, {99, 120, 120}};
        for (int[] seen : sums) {
            street(0, 0, 0);
            law(String.valueOf(seen[0]));
            bytes(0, seen);
            is(seen[0] + " a minute", x.judge(0, 0), NOT);
            is(seen[0] + " begun in any", x.begun(0, 0), (1L << 60) - 1);
        }
        street(0, 0, 0);
        law("41");
        bytes(0, 41, 82, 123);
        is("123 is not said so", x.judge(0, 0), 2);
        bytes(0, 41, 82, 127);
        is("127 is not, either", x.judge(0, 0), 2);
        bytes(0, 41, 82, 119);
        is("119 is not", x.judge(0, 0), 2);
        law("0");
        bytes(0, 0, 0, -128);
        is("-128 is not 0", x.judge(0, 0), 2);
        law("99");
        strength(0);
        bytes(0, 99, 120, 120);
        is("a crack ends nothing", x.judge(0, 0), NOT);
    }

    private void begunMinutes() {
        sentence("BEGUN: which minutes 0 .. 59 (bits) it may have been begun in, HELD always as h");
        street(12);
        blows(0, 60, 59);
        bytes(0, 0);
        is("in 59 alone", x.begun(0, 0), 1L << 59);
        bytes(0, 3);
        is("in all but 59, and not in 60", x.begun(0, 0), (1L << 59) - 1);
        blows(0, 60, 1);
        is("in 0 alone", x.begun(0, 0), 1);
        bytes(0, 4);
        is("never", x.begun(0, 0), 0);
        x.row(0, 0, 0);
        is("nothing seen: in any of 0 .. 59", x.begun(0, 0), (1L << 60) - 1);
        is("held in any way", x.begun(0, 3), (1L << 60) - 1);
        // Edge on 3, then 6, 12 and 18 by h.
        int[] byHold = {3, 6, 12, 18};
        for (int h = 0; h <= 3; h++) {
            bytes(0, byHold[h]);
            for (int held = 0; held <= 3; held++) is("HELD as " + held, x.begun(0, held), held == h ? 1 : 0);
        }
        x.mend(0, NARROW, 0);
        is("no matter how NARROW", x.begun(0, 3), 1);
        blows(0, 7, 1);
        long sevens = 0;
        for (int m = 0; m < 60; m += 7) sevens |= 1L << m;
        is("in 0, 7, 14 ..", x.begun(0, 3), sevens);
    }

    private void begunOtherwise() {
        sentence("HELD always as h; JUDGED");
        windyStreet(20, 20);
        bytes(0, 30, 60);
        is("no turn as it begins, none behind", x.begun(0, 3), (1L << 60) - 1);
        bytes(0, 31, 61);
        is("not with one", x.begun(0, 3), 0);
        bytes(0, 30, 61);
        is("nor with a later one", x.begun(0, 3), 0);
    }

    private void begunRefused() {
        sentence("BEGUN, HELD as h: bits. Long.MIN_VALUE: BAD, or no ROW of bytes; STATE.");
        for (int places = 0; places <= 1; places++) {
            anew();
            if (places == 1) x.place(0, 0);
            x.body(0);
            x.keep(1, 0);
            x.row(5, 0, 0);
            is("nothing", x.begun(0, 0), LONG_BAD);
            is("a PACE", x.begun(1, 0), LONG_BAD);
            for (int sort = 1; sort <= 4; sort++) {
                x.row(2, sort, 3);
                is("a ROW of " + sort, x.begun(2, 0), LONG_BAD);
            }
            for (int shelf : new int[] {-1, 6, Integer.MIN_VALUE, Integer.MAX_VALUE}) is("no SHELF", x.begun(shelf, 0), LONG_BAD);
            for (int h : new int[] {-1, 4, Integer.MIN_VALUE, Integer.MAX_VALUE}) is("no way to hold", x.begun(5, h), LONG_BAD);
            for (int h = 0; h <= 3; h++) is("HELD as " + h, x.begun(5, h), places == 0 ? STATE : (1L << 60) - 1);
        }
    }

    private void judgedAsFar() {
        sentence("for a told minute and h the first that is not so (as far as it goes; one too much is not so); NOT.");
        windyStreet(20, 20, 20);
        x.row(0, 0, 0);
        is("nothing seen", x.judge(0, 0), NOT);
        bytes(0, 5);
        is("one of three", x.judge(0, 0), NOT);
        bytes(0, 5, 10);
        is("two of three", x.judge(0, 0), NOT);
        bytes(0, 5, 10, 15);
        is("three of three", x.judge(0, 0), NOT);
        bytes(0, 5, 10, 15, 15);
        is("one too much", x.judge(0, 0), 3);
        is("never begun so", x.begun(0, 0), 0);
        bytes(0, 5, 10, 15, 20, 25);
        is("the first too much", x.judge(0, 0), 3);
        bytes(0, 4, 10, 15);
        is("the first", x.judge(0, 0), 0);
        bytes(0, 5, 9, 15);
        is("the second", x.judge(0, 0), 1);
        bytes(0, 5, 10, 16);
        is("the third", x.judge(0, 0), 2);
        bytes(0, 5, 11, 16);
        is("the first of two", x.judge(0, 0), 1);
        judgedByMinutes();
    }

    private void judgedByMinutes() {
        windyStreet(20, 20, 20);
        x.row(0, 0, 60);
        is("sixty noughts", x.judge(0, 0), 0);
        for (int p = 0; p < 3; p++) x.mend(p, GUST, 0);
        is("three of sixty", x.judge(0, 0), 3);
        // Gusty in minutes 0, 1, 10, 11 and so on: 3 in each, edge on.
        street(12, 12, 12);
        bytes(0, 3, 6, 6);
        is("0, 1, 2", x.judge(0, 0), NOT);
        is("1, 2, 3", x.judge(0, 10), 1);
        is("2, 3, 4", x.judge(0, 20), 0);
        is("9, 10, 11", x.judge(0, 90), 0);
        is("10, 11, 12", x.judge(0, 100), NOT);
        bytes(0, 0, 3, 6);
        is("9, 10, 11 so", x.judge(0, 90), NOT);
        is("8, 9, 10", x.judge(0, 80), 1);
        is("in 9, 19, 29 ..", x.begun(0, 0), 1L << 9 | 1L << 19 | 1L << 29 | 1L << 39 | 1L << 49 | 1L << 59);
    }

    private void judgeAnswers() {
        sentence("JUDGED (mh: 10 times the minute, and h). BAD, -11, -12, STATE; NOT.");
        street(20);
        bytes(0, 30);
        is("minute 0, flat", x.judge(0, 3), NOT);
        is("minute 0, less flat", x.judge(0, 2), 0);
        is("minute 1", x.judge(0, 13), NOT);
        is("minute 2 is calm", x.judge(0, 23), 0);
        is("minute 991", x.judge(0, 9913), NOT);
        is("minute 999 is calm", x.judge(0, 9993), 0);
        is("minute 1000", x.judge(0, 10003), BAD);
        for (int h = 4; h <= 9; h++) is("no way to hold", x.judge(0, h), BAD);
        for (int mh = -1; mh >= -21; mh--) is("mh " + mh, x.judge(0, mh), BAD);
        for (int mh : WILD) is("mh far out", x.judge(0, mh), BAD);
        for (int places = 0; places <= 1; places++) {
            anew();
            if (places == 1) x.place(0, 0);
            x.body(0);
            x.keep(1, 0);
            x.row(5, 0, 0);
            is("nothing", x.judge(0, 0), NOTHING);
            is("a PACE", x.judge(1, 0), OTHER);
            for (int sort = 1; sort <= 4; sort++) {
                x.row(2, sort, 3);
                is("a ROW of " + sort, x.judge(2, 0), OTHER);
            }
            for (int shelf : new int[] {-1, 6, Integer.MIN_VALUE, Integer.MAX_VALUE}) is("no SHELF", x.judge(shelf, 0), BAD);
            for (int shelf : new int[] {0, 1, 2, 5}) is("BAD is named first", x.judge(shelf, 4), BAD);
            is("bytes", x.judge(5, 0), places == 0 ? STATE : NOT);
        }
    }

    // ---- walks drawn

    private static int next(int z) {
        return (int) ((z * 1103515245L + 12345L) & 0xffffffffL);
    }

    /** (z >>> 8) % 12 by longs. */
    private static int draw(int z) {
        return (int) (((z & 0xffffffffL) >> 8) % 12);
    }

    private void drawnBySeed() {
        sentence("z = z * 1103515245 + 12345 (an int; SEED at first) ahead of each PLACE");
        int[] seeds = {0, 1, -1, 5, 12345, Integer.MAX_VALUE, Integer.MIN_VALUE, -2000000000};
        int[] crowd = {5, 3, 6, 1};
        boolean anyBelow0 = false;
        for (int seed : seeds) {
            people(crowd);
            int z = seed, there = 0, passed = 0;
            for (int walk = 0; walk < 30; walk++) {
                boolean on = true;
                for (int p = 0; p < 4 && on; p++) {
                    z = next(z);
                    anyBelow0 |= z < 0;
                    on = draw(z) >= crowd[p];
                    if (on) passed++;
                }
                if (on) there++;
            }
            is("there by " + seed, x.drawn(seed, 300, 0), there);
            is("passed by " + seed, x.drawn(seed, 300, 1), passed);
            is("the same again", x.drawn(seed, 300, 1), passed);
        }
        due.isTrue("some z were below 0", anyBelow0);
    }

    private void drawnBelowPeople() {
        sentence("somebody walks into it, if (z >>> 8) % 12 is below PEOPLE: that walk ends");
        boolean[] drawn = new boolean[12];
        boolean below0 = false;
        for (int seed = -40; seed <= 40; seed++) {
            int z = next(seed), r = draw(z);
            drawn[r] = true;
            below0 |= z < 0;
            people(r);
            is("seed " + seed + ": " + r + " is not below", x.drawn(seed, 10, 0), 1);
            x.mend(0, PEOPLE, r + 1);
            is("seed " + seed + ": it is below one more", x.drawn(seed, 10, 0), 0);
        }
        for (int r = 0; r < 12; r++) due.isTrue(r + " was drawn", drawn[r]);
        due.isTrue("from a z below 0, too", below0);
        people(0, 12, 0);
        is("it ends in PLACE 1", x.drawn(7, 300, 0), 0);
        is("PLACE 0 was passed", x.drawn(7, 300, 1), 30);
    }

    private void drawnTillItCracks() {
        sentence("else it goes on, till it CRACKS (it ends, too), or is there: how many came there; PLACES of all walks passed.");
        windyStreet(20, 20, 20);
        // 30 at each, flat.
        int[][] byStrength = {{90, 30, 90}, {89, 0, 60}, {60, 0, 60}, {59, 0, 30}, {30, 0, 30}, {29, 0, 0}};
        for (int[] row : byStrength) {
            strength(row[0]);
            is("there by STRENGTH " + row[0], x.drawn(1, 303, 0), row[1]);
            is("passed by STRENGTH " + row[0], x.drawn(1, 303, 1), row[2]);
        }
        is("edge on: 15", x.drawn(1, 300, 0), 30);
        strength(45);
        int[] byHold = {30, 30, 0, 0};
        for (int h = 0; h <= 3; h++) is("HELD as " + h, x.drawn(1, 300 + h, 0), byHold[h]);
        for (int p = 0; p < 3; p++) x.mend(p, NARROW, 0);
        is("no matter how NARROW", x.drawn(1, 301, 0), 30);
        // A walk that cracks asks no further: the next one goes on with the next z.
        windyStreet(0, 20);
        x.mend(0, PEOPLE, 6);
        strength(0);
        int z = 3, passed = 0;
        for (int walk = 0; walk < 20; walk++) {
            z = next(z);
            if (draw(z) < 6) continue;
            passed++;
            z = next(z);
        }
        is("by hand", x.drawn(3, 200, 1), passed);
        is("none there", x.drawn(3, 200, 0), 0);
    }

    private void drawnMinutes() {
        sentence("begun in minutes 0, 7, 14 and so on");
        street(20);
        blows(0, 8, 1);
        strength(29);
        // Gusty where m % 8 is 0: walks 0, 8, 16, 24.
        int[][] byN = {{1, 0}, {2, 1}, {8, 7}, {9, 7}, {16, 14}, {17, 14}, {25, 21}, {30, 26}};
        for (int[] row : byN) is(row[0] + " walks", x.drawn(1, 10 * row[0] + 3, 0), row[1]);
        street(0, 20);
        blows(1, 8, 1);
        strength(29);
        // PLACE 1 in minute 7 w + 1: gusty for w = 1, 9, 17, 25.
        is("PLACE 1 a minute later", x.drawn(1, 13, 0), 1);
        is("the second", x.drawn(1, 23, 0), 1);
        is("nine", x.drawn(1, 93, 0), 8);
        is("ten", x.drawn(1, 103, 0), 8);
    }

    private void drawnPlaces() {
        sentence("DRAWN: n walks (1 .. 30) by a SEED, HELD as h");
        people(0, 0, 0, 0, 0, 0, 0, 0, 0, 0, 0, 0);
        for (int n = 1; n <= 30; n++) {
            is(n + " there", x.drawn(1, 10 * n, 0), n);
            is(n + " passed", x.drawn(1, 10 * n, 1), 12 * n);
        }
        is("no walk", x.drawn(1, 0, 0), BAD);
        is("31", x.drawn(1, 310, 0), BAD);
    }

    private void drawnRefused() {
        sentence("DRAWN (nh: 10 n and h): there (what 0), PLACES (1). BAD; STATE.");
        for (int places = 0; places <= 1; places++) {
            anew();
            if (places == 1) x.place(0, 0);
            for (int nh : new int[] {0, 3, 9, 14, 19, 304, 309, 310, 313, -1, -10, -13, -309, Integer.MIN_VALUE, Integer.MAX_VALUE}) {
                is("nh " + nh, x.drawn(1, nh, 0), BAD);
            }
            for (int what : new int[] {-1, 2, Integer.MIN_VALUE, Integer.MAX_VALUE}) is("what " + what, x.drawn(1, 10, what), BAD);
            for (int nh : new int[] {10, 13, 300, 303}) is("nh " + nh, x.drawn(1, nh, 0), places == 0 ? STATE : nh / 10);
            is("PLACES", x.drawn(1, 13, 1), places == 0 ? STATE : 1);
        }
    }
}
