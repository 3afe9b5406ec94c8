/** Each sentence on walks in thought that names an edge, by a test of its own: Terms 1 and 2, promises 10 to 18. */
public final class EdgesOfWalksTest extends Edges {
    private EdgesOfWalksTest() {
        super("EdgesOfWalksTest");
    }

    public static void main(String[] args) {
        EdgesOfWalksTest test = new EdgesOfWalksTest();
        test.placeByMinute();
        test.turns();
        test.eased();
        test.cracksAboveTheLimit();
        test.fiveForAScratch();
        test.missingBytes();
        test.minutes();
        test.firstCrack();
        test.greatest();
        test.passes();
        test.start();
        test.hold();
        test.holdsLikeOnes();
        test.holdCracks();
        test.soonest();
        test.soonestOfAllWays();
        test.soonestIn99();
        test.safest();
        test.safestOfOnePlace();
        test.menFor();
        test.van();
        test.windFrom();
        test.scratchFor();
        test.wholeWays();
        test.refusedWalks();
        test.due.end();
    }

    // ---- Terms 1: a walk

    private void placeByMinute() {
        sentence("each minute's STRAIN is of the PLACE where one is then, in that minute, by how it is HELD");
        street(20, 20, 20);
        bytes(0, 1, 1, 1);
        // 10 in minutes 0, 1, 10, 11 and so on; none else.
        int[] greatest = {20, 10, 0, 0, 0, 0, 0, 0, 10, 20, 20};
        for (int m = 0; m < greatest.length; m++) is("begun in " + m, x.walk(0, m, 1), greatest[m]);
        is("begun in 998: 998, 999, 1000", x.walk(0, 998, 1), 10);
        is("begun in 999: 999, 1000, 1001", x.walk(0, 999, 1), 20);
        x.mend(2, LASTS, 3);
        is("PLACE 2 in minute 2", x.walk(0, 0, 1), 30);
        x.mend(0, LASTS, 0);
        is("PLACE 0 is calm in 0", x.walk(0, 0, 1), 20);
        x.mend(1, KERB, 4);
        is("PLACE 1 with a kerb", x.walk(0, 0, 1), 24);
        bytes(0, 3, 2, 1);
        is("by how it is HELD: 20 and 4, 10, two turns", x.walk(0, 0, 1), 36);
    }

    private void turns() {
        sentence("1 more where it is HELD otherwise than the minute ahead");
        street(0, 0, 0, 0);
        int[][] rows = {{0, 0, 0, 0}, {3, 3, 3, 3}, {0, 3, 3, 3}, {0, 1, 3, 3}, {0, 3, 0, 3}, {3, 2, 2, 1}, {0, 0, 0, 1}};
        int[] turned = {0, 0, 1, 2, 3, 2, 1};
        for (int i = 0; i < rows.length; i++) {
            bytes(0, rows[i]);
            is("turned in thought", x.walk(0, 0, 1), turned[i]);
            x.out(0, rows[i][0]);
            is("not as it begins", x.led(6), 0);
            x.pace(rows[i][1]);
            x.pace(rows[i][2]);
            x.pace(rows[i][3]);
        }
        is("three turns left least", x.led(4), 96);
        x.out(0, 2);
        x.rest(3);
        is("the turn of a rest is eased", x.led(6), 0);
        x.mend(0, CALM, 1);
        x.rest(3);
        is("1 * 3 / 2", x.led(6), 1);
        x.rest(2);
        is("a rest may turn, too", x.led(6), 1 + 1 + 1);
        x.pace(3);
        is("turned ahead of it, too", x.led(6), 4);
    }

    private void eased() {
        sentence("3 less where one rests in WIND 0 (0 at least then)");
        eased(4, 0, 1, 0);
        eased(12, 0, 1, 0);
        eased(16, 0, 1, 1);
        eased(16, 0, 2, 0);
        eased(30, 0, 1, 4);
        eased(30, 0, 2, 1);
        eased(30, 0, 3, 0);
        // A KERB strains at rest, too: 2 and then 3 less.
        eased(30, 2, 1, 8);
        eased(30, 3, 3, 10);
        eased(30, 4, 2, 13);
        street(30, 30);
        x.mend(0, CALM, 1);
        x.out(1, 0);
        x.rest(0);
        is("WIND 1 does not ease", x.led(6), 7);
        street(0, 0);
        x.mend(0, KERB, 5);
        x.out(0, 0);
        x.rest(0);
        is("a GUST of 0 is WIND 0", x.led(6), 7);
        x.pace(0);
        is("a pace does not ease", x.led(4), 99 - 7);
    }

    /** Set out in the last gusty minute, then so many rests in calm ones. */
    private void eased(int gust, int kerb, int rests, int want) {
        street(gust, 0);
        x.mend(0, KERB, kerb);
        x.out(1, 0);
        is("no ease as it begins", x.led(6), gust / 4 + kerb);
        for (int i = 0; i < rests; i++) x.rest(0);
        is("GUST " + gust + " KERB " + kerb + " rests " + rests, x.led(6), want);
        x.pace(0);
        is("arrived so, or safer", x.led(4), 99 - want);
        int safest = x.safest(1, rests + 1);
        is("in thought", safest, Math.min(want, kerb > 2 ? gust / 4 + kerb : want));
    }

    private void cracksAboveTheLimit() {
        sentence("when it is more than STRENGTH less 5 times SCRATCH it CRACKS there");
        windyStreet(20, 20);
        bytes(0, 0, 0);
        // 5, then 10.
        int[] crackedAt = {0, 0, 0, 0, 0, 1, 1, 1, 1, 1, NOT, NOT};
        for (int s = 0; s < crackedAt.length; s++) {
            strength(s);
            boolean cracks = crackedAt[s] != NOT;
            is("in thought by " + s, x.walk(0, 0, 0), crackedAt[s]);
            is("held by " + s, x.hold(0, 2), cracks ? 1 : 0);
            is("soonest by " + s, x.soonest(0), cracks ? NOT : 1);
            is("safest by " + s, x.safest(0, 1), cracks ? NOT : 10);
            is("drawn by " + s, x.drawn(1, 10, 0), cracks ? 0 : 1);
            is("its cost by " + s, x.cost(0, 0, 0), cracks ? 400 : 0);
            int arrived = x.led(0), cracked = x.led(1);
            is("out by " + s, x.out(0, 0), s >= 5 ? 1 : 0);
            if (s >= 5) is("paced by " + s, x.pace(0), cracks ? 0 : 1);
            is("cracked by " + s, x.led(1) - cracked, cracks ? 1 : 0);
            is("arrived by " + s, x.led(0) - arrived, cracks ? 0 : 1);
        }
    }

    private void fiveForAScratch() {
        sentence("STRENGTH less 5 times SCRATCH");
        windyStreet(20, 20);
        bytes(0, 0, 0);
        int[][] byScratch = {{1, 15}, {2, 20}, {10, 60}, {99, 505}};
        for (int[] row : byScratch) {
            x.mend(0, SCRATCH, row[0]);
            strength(row[1]);
            is("10 are left for SCRATCH " + row[0], x.walk(0, 0, 0), NOT);
            strength(row[1] - 1);
            is("9 are left", x.walk(0, 0, 0), 1);
            strength(row[1] - 6);
            is("4 are left", x.walk(0, 0, 0), 0);
            is("4 are left as one sets out", x.out(0, 0), 0);
        }
        street(0);
        x.row(0, 0, 0);
        x.mend(0, SCRATCH, 1);
        strength(5);
        is("0 is not more than 0", x.walk(0, 0, 0), NOT);
        is("0 is not more than 0 in deed", x.out(0, 0), 1);
        is("nothing is left", x.led(4), 0);
        strength(4);
        is("0 is more than -1", x.walk(0, 0, 0), 0);
        is("0 is more than -1, HELD best", x.hold(0, 2), 1);
        is("0 is more than -1 in deed", x.out(0, 0), 0);
        is("never there", x.soonest(0), NOT);
        is("nor safe", x.safest(0, 60), NOT);
        is("nor drawn", x.drawn(1, 10, 0), 0);
    }

    // ---- Terms 2

    private void missingBytes() {
        sentence("what is missing, or is none of 0 .. 3: 0");
        windyStreet(20, 20, 20);
        for (int v : new int[] {4, 5, 10, 127, -1, -3, -128}) {
            bytes(0, v, v, v);
            is(v + " is edge on", x.walk(0, 0, 1), 15);
            for (int p = 0; p < 3; p++) x.mend(p, NARROW, 0);
            is(v + " passes anywhere", x.walk(0, 0, 2), 1);
            bytes(0, 3, v, 3);
            is(v + " between", x.walk(0, 0, 1), 30 + 6 + 31);
        }
        x.row(0, 0, 0);
        is("no bytes", x.walk(0, 0, 1), 15);
        is("no bytes pass", x.walk(0, 0, 2), 1);
        bytes(0, 3);
        is("one byte", x.walk(0, 0, 1), 30 + 6 + 5);
        bytes(0, 3, 3);
        is("two bytes", x.walk(0, 0, 1), 30 + 30 + 6);
        bytes(0, 0, 0, 0, 3, 3);
        is("bytes behind the shop", x.walk(0, 0, 1), 15);
        is("they need not pass", x.walk(0, 0, 2), 1);
        bytes(0, 0, 1, 2);
        is("0, 1, 2", x.walk(0, 0, 1), 5 + 11 + 21);
    }

    private void minutes() {
        sentence("begun in a minute (0 .. 999)");
        street(8, 8);
        bytes(0, 0, 0);
        int[] wrong = {-1, 1000, 1001, 10000, -2000000000, Integer.MIN_VALUE, Integer.MAX_VALUE};
        for (int m : wrong) {
            is("walk", x.walk(0, m, 0), BAD);
            is("hold", x.hold(m, 0), LONG_BAD);
            is("soonest", x.soonest(m), BAD);
            is("safest", x.safest(m, 9), BAD);
            is("menFor", x.menFor(0, m), BAD);
            is("van", x.van(0, m), BAD);
            is("windFrom", x.windFrom(0, m), BAD);
            is("scratchFor", x.scratchFor(0, m), BAD);
            is("cost", x.cost(0, m, 0), LONG_BAD);
            is("out", x.out(m, 0), BAD);
        }
        for (int m = 0; m <= 999; m += 999) {
            is("walk", x.walk(0, m, 0), NOT);
            is("hold", x.hold(m, 2), 0);
            is("soonest", x.soonest(m), 1);
            is("safest", x.safest(m, 1), m == 0 ? 4 : 2);
            is("menFor", x.menFor(0, m), 1);
            is("van", x.van(0, m), 0);
            is("windFrom", x.windFrom(0, m), NOT);
            is("scratchFor", x.scratchFor(0, m), 19);
            is("cost", x.cost(0, m, 0), 0);
            is("out", x.out(m, 0), 1);
            is("pace", x.pace(0), 1);
        }
    }

    private void firstCrack() {
        sentence("where it CRACKS (the first PLACE; NOT)");
        windyStreet(20, 20, 20);
        bytes(0, 3, 3, 3);
        int[][] byStrength = {{0, 0}, {29, 0}, {30, 1}, {59, 1}, {60, 2}, {89, 2}, {90, NOT}, {999, NOT}};
        for (int[] row : byStrength) {
            strength(row[0]);
            is("STRENGTH " + row[0], x.walk(0, 0, 0), row[1]);
        }
        street(0);
        x.row(0, 0, 1);
        is("one PLACE", x.walk(0, 0, 0), NOT);
        street(1, 1, 1, 1, 1, 1, 1, 1, 1, 1, 1, 1);
        x.mend(11, KERB, 1);
        x.row(0, 0, 12);
        strength(0);
        is("in the shop", x.walk(0, 0, 0), 11);
    }

    private void greatest() {
        sentence("the greatest ALL STRAIN");
        windyStreet(20, 20, 20);
        bytes(0, 3, 3, 3);
        for (int s : new int[] {0, 29, 30, 60, 90, 999}) {
            strength(s);
            is("it grows on behind a crack by " + s, x.walk(0, 0, 1), 90);
        }
        street(30);
        bytes(0, 3);
        is("of one PLACE", x.walk(0, 0, 1), 45);
        is("of a calm one", x.walk(0, 2, 1), 0);
        windyStreet(30, 30, 30, 30, 30, 30, 30, 30, 30, 30, 30, 30);
        for (int p = 0; p < 12; p++) x.mend(p, KERB, 9);
        x.mend(0, MEN, 1);
        bytes(0, 3, 3, 3, 3, 3, 3, 3, 3, 3, 3, 3, 3);
        is("the most of all", x.walk(0, 0, 1), 12 * 99);
        strength(999);
        is("even so", x.walk(0, 0, 0), 10);
    }

    private void passes() {
        sentence("whether it PASSES everywhere (1, 0: a PLACE that is too NARROW)");
        for (int narrow = 0; narrow < 3; narrow++) {
            street(0, 0, 0);
            x.mend(narrow, NARROW, 1);
            bytes(0, 2, 2, 2);
            is("too NARROW in " + narrow, x.walk(0, 0, 2), 0);
            x.put(0, narrow, 1);
            is("as NARROW as it is HELD", x.walk(0, 0, 2), 1);
            x.put(0, narrow, 0);
            is("edge on", x.walk(0, 0, 2), 1);
            strength(0);
            x.put(0, narrow, 3);
            is("flat", x.walk(0, 0, 2), 0);
            is("where it cracks is another matter", x.walk(0, 0, 0), narrow == 0 ? 1 : narrow);
        }
        street(30);
        strength(0);
        bytes(0, 3);
        is("it passes, cracked", x.walk(0, 0, 2), 1);
    }

    private void start() {
        sentence("START: of all minutes 0 .. 59 that by which such a walk's greatest ALL STRAIN is least (of like ones the first); it.");
        street(12);
        bytes(0, 0);
        starts("calm from 2 on", 2, 0);
        blows(0, 60, 59);
        starts("the last minute", 59, 0);
        blows(0, 60, 60);
        starts("all alike", 0, 3);
        blows(0, 10, 0);
        starts("all calm", 0, 0);
        blows(0, 2, 1);
        starts("minute 1", 1, 0);
        strength(0);
        x.mend(0, CALM, 4);
        starts("cracked by all", 1, 1);
        // Both are calm in minutes 60 and 61 alone: PLACE 0 in 29, 30, 60, PLACE 1 in 19, 20, 40, 41, 61.
        street(12, 12);
        bytes(0, 0, 0);
        blows(0, 31, 29);
        blows(1, 21, 19);
        is("none at 60", x.walk(0, 60, 1), 0);
        starts("60 is too late", 18, 3);
        is("what -1", x.start(0, -1), BAD);
        is("what 2", x.start(0, 2), BAD);
        for (int what : WILD) is("what far out", x.start(0, what), BAD);
        bytes(0, 1, 0);
        blows(0, 10, 2);
        blows(1, 10, 2);
        starts("a turn in calm", 2, 1);
    }

    private void starts(String what, int minute, int strain) {
        is(what, x.start(0, 0), minute);
        is(what + ": its strain", x.start(0, 1), strain);
        is(what + ": as a walk", x.walk(0, minute, 1), strain);
    }

    private void holds(String what, long digits, int all) {
        is(what, x.hold(0, 0), digits);
        is(what + ": ALL STRAIN", x.hold(0, 1), all);
    }

    private void hold() {
        sentence("HOLD: how it should be HELD at each PLACE (as NARROW lets), begun in a minute, without rests, so that ALL STRAIN at the end is least");
        street(0);
        law("3-h");
        for (int narrow = 0; narrow <= 3; narrow++) {
            x.mend(0, NARROW, narrow);
            holds("as flat as NARROW " + narrow + " lets", narrow, 3 - narrow);
        }
        street(0, 0, 0);
        law("3-h");
        x.mend(1, NARROW, 1);
        holds("1 between 3 and 3: two turns", 313, 2 + 2);
        law("(3-h)*9");
        holds("turns cost 1 whatever strains", 313, 18 + 2);
        law("h<3&!(p=1)");
        x.mend(1, NARROW, 2);
        holds("two turns that save two are worth nothing", 0, 2);
        x.mend(2, NARROW, 2);
        holds("nor is one that saves one", 0, 2);
        law("h=p?0;9");
        x.mend(1, NARROW, 3);
        holds("another one at each", 12, 2);
        street(20, 20);
        law("w?h=2:");
        is("that was no text", x.hold(0, 1), 10);
        law("w?!(h=2)*9;!(h=1)*9");
        holds("gusty in 0 and 1", 22, 0);
        is("gusty in 9, 10: calm, gusty", x.hold(9, 0), 12);
        is("1, then 2: a turn", x.hold(9, 1), 1);
        is("gusty in 1, calm in 2", x.hold(1, 0), 21);
        is("calm", x.hold(5, 0), 11);
        is("999 is calm, 1000 is gusty", x.hold(999, 0), 12);
    }

    private void holdsLikeOnes() {
        sentence("(of like ones the first by numbers, PLACE 0 first): as digits");
        street(0, 0, 0);
        holds("all alike", 0, 0);
        law("h=0");
        holds("all but edge on alike", 111, 0);
        law("p=0?h*9;p=2?(h=0)*9;0");
        holds("one turn, as late as may be", 1, 1);
        law("p=0?(h=0)*9;0");
        holds("no turn", 111, 0);
        law("p=2?h=0;p=0?h;0");
        holds("a turn is worth no more than edge on", 0, 1);
        law("p=0?(h<2)*9;p=2?(h>1)*9;0");
        holds("2 0 0 ahead of 2 1 1, 2 2 0 and the like", 200, 1);
        law("h=p+1?0;9");
        holds("the last PLACE's is the last", 123, 2);
        law("h=3-p?0;9");
        holds("PLACE 0's is the first", 321, 2);
        street(0, 0, 0, 0, 0, 0, 0, 0, 0, 0, 0, 0);
        law("3-h");
        holds("twelve digits", 333333333333L, 0);
        law("h=!(p=0)*3?0;9");
        holds("a 0 ahead is not written", 33333333333L, 1);
        law("h=p%4?0;99");
        holds("a turn at each", 12301230123L, 11);
        law("0");
        holds("twelve noughts", 0, 0);
        law("99");
        holds("the most of all", 0, 12 * 99);
        is("too much for any STRENGTH", x.hold(0, 2), 1);
        law("83");
        strength(996);
        is("12 times 83", x.hold(0, 2), 0);
        strength(995);
        is("1 more than it bears", x.hold(0, 2), 1);
    }

    private void holdCracks() {
        sentence("whether it CRACKS (1, 0; just if ALL STRAIN at any PLACE is too much)");
        windyStreet(20, 20);
        int[][] byStrength = {{0, 1}, {4, 1}, {5, 1}, {9, 1}, {10, 0}, {11, 0}, {999, 0}};
        for (int[] row : byStrength) {
            strength(row[0]);
            is("STRENGTH " + row[0], x.hold(0, 2), row[1]);
            is("it is the same one", x.hold(0, 1), 10);
        }
        strength(20);
        x.mend(0, SCRATCH, 2);
        is("10 left", x.hold(0, 2), 0);
        x.mend(0, SCRATCH, 3);
        is("5 left", x.hold(0, 2), 1);
        sentence("the digits (what 0; the last PLACE's is the last), ALL STRAIN (1), CRACKS (2). Long.MIN_VALUE: BAD; STATE.");
        is("what -1", x.hold(0, -1), LONG_BAD);
        is("what 3", x.hold(0, 3), LONG_BAD);
        for (int what : WILD) is("what far out", x.hold(0, what), LONG_BAD);
        anew();
        for (int what = 0; what <= 2; what++) is("no PLACES", x.hold(0, what), STATE);
        is("BAD is named first", x.hold(0, 3), LONG_BAD);
        is("BAD is named first, too", x.hold(-1, 0), LONG_BAD);
    }

    private void soonest() {
        sentence("HELD always edge on: the fewest minutes (0 .. 99, begun in a minute) in which it is in the shop and has not CRACKED");
        street(8);
        is("one PLACE: at once", x.soonest(0), 0);
        strength(2);
        is("at its limit", x.soonest(0), 0);
        strength(1);
        is("it CRACKS", x.soonest(0), NOT);
        is("a minute later it is calm", x.soonest(2), 0);
        for (int far = 2; far <= 12; far++) {
            x.place(0, 0);
            is("so many PLACES: " + far, x.soonest(2), far - 1);
        }
        street(0, 0);
        law("h?0;50");
        strength(100);
        is("edge on, though flatter would be none", x.soonest(0), 1);
        strength(99);
        is("edge on it is too much", x.soonest(0), NOT);
        for (int p = 0; p < 2; p++) x.mend(p, NARROW, 0);
        strength(100);
        sentence("NARROW lets edge on anywhere");
        is("NARROW 0", x.soonest(0), 1);
        is("and safely", x.safest(0, 1), 100);
    }

    private void soonestOfAllWays() {
        sentence("(of all ways to rest; NARROW lets edge on anywhere); NOT.");
        // 7 as it begins, then calm; each rest takes 3 off, the shop's KERB puts 9 on.
        street(30, 0);
        blows(0, 60, 1);
        x.mend(1, KERB, 9);
        int[][] byStrength = {{99, 1}, {16, 1}, {15, 2}, {13, 2}, {12, 3}, {10, 3}, {9, 4}, {8, NOT}, {7, NOT}, {6, NOT}};
        for (int[] row : byStrength) {
            strength(row[0]);
            is("STRENGTH " + row[0], x.soonest(0), row[1]);
        }
        strength(12);
        x.mend(0, SCRATCH, 1);
        is("7 left", x.soonest(0), NOT);
        // Rests in PLACE 0 strain by its KERB, those in PLACE 1 ease.
        street(30, 0, 0);
        blows(0, 60, 1);
        x.mend(0, KERB, 4);
        x.mend(2, KERB, 9);
        strength(20);
        is("11, 11, 20", x.soonest(0), 2);
        strength(19);
        is("a rest in PLACE 1", x.soonest(0), 3);
        strength(11);
        is("three rests there", x.soonest(0), 5);
        strength(10);
        is("it CRACKS at once", x.soonest(0), NOT);
    }

    private void soonestIn99() {
        sentence("the fewest minutes (0 .. 99, begun in a minute)");
        // PLACE 1 is calm in minutes 59 and 119 alone, the shop in 39, 79, 119, 159; PLACES 0 and 2 always.
        street(0, 30, 0, 30);
        blows(1, 60, 59);
        blows(3, 40, 39);
        strength(6);
        is("59, then 79", x.soonest(0), 79);
        is("119, then 159: 98", x.soonest(61), 98);
        is("119, then 159: 99", x.soonest(60), 99);
        is("100 are too many", x.soonest(59), NOT);
        is("59, then 79", x.soonest(58), 21);
        sentence("SOONEST. BAD; STATE; NOT.");
        anew();
        is("no PLACES", x.soonest(0), STATE);
        is("BAD is named first", x.soonest(-1), BAD);
        is("BAD is named first, too", x.soonest(1000), BAD);
    }

    private void safest() {
        sentence("SAFEST: the least ALL STRAIN with which, edge on, not CRACKED, one comes into the shop within n minutes");
        street(30, 0);
        blows(0, 60, 1);
        x.mend(1, KERB, 9);
        int[] byMinutes = {NOT, 16, 13, 10, 9, 9, 9};
        for (int n = 0; n < byMinutes.length; n++) is("within " + n, x.safest(0, n), byMinutes[n]);
        is("within 60", x.safest(0, 60), 9);
        strength(13);
        is("16 is too much", x.safest(0, 1), NOT);
        is("13 is not", x.safest(0, 2), 13);
        strength(8);
        is("never", x.safest(0, 60), NOT);
        windyStreet(30, 0);
        is("the walk is over in the shop: no rests there", x.safest(0, 60), 7);
        // To rest in a WIND of 4 strains by 1, and is no ease; the shop is gusty in minute 1.
        street(4, 30);
        x.mend(0, CALM, 4);
        is("at once", x.safest(0, 1), 8);
        is("one rest", x.safest(0, 2), 2);
        is("more are no safer", x.safest(0, 60), 2);
        strength(2);
        is("soonest so", x.soonest(0), 2);
        strength(1);
        is("too much by any way", x.soonest(0), NOT);
        sentence("within n minutes (0 .. 60; of one PLACE alone it is there at once: its first minute's); NOT.");
        is("n -1", x.safest(0, -1), BAD);
        is("n 61", x.safest(0, 61), BAD);
        for (int n : WILD) is("n far out", x.safest(0, n), BAD);
        // The shop is calm in minutes 59 and 119 alone.
        street(0, 30);
        blows(1, 60, 59);
        strength(6);
        is("in minute 119, 60 minutes on", x.safest(59, 60), 0);
        is("59 are too few", x.safest(59, 59), NOT);
        is("soonest, too", x.soonest(59), 60);
        is("in the minute it begins one is not there", x.safest(59, 0), NOT);
        // A gust comes later on: to come sooner is safer.
        street(0, 20);
        blows(1, 10, 8);
        is("calm in 9", x.safest(8, 1), 0);
        is("within more", x.safest(8, 5), 0);
        x.mend(0, CALM, 4);
        is("each rest strains", x.safest(8, 5), 1);
        is("5 in minute 1, with no rest", x.safest(0, 5), 5);
        is("eight rests are worse than 5", x.safest(0, 9), 5);
    }

    private void safestOfOnePlace() {
        sentence("of one PLACE alone it is there at once: its first minute's");
        street(30);
        for (int n = 0; n <= 60; n += 20) is("within " + n, x.safest(1, n), 7);
        strength(7);
        is("at its limit", x.safest(1, 60), 7);
        strength(6);
        is("it CRACKS, and calm comes too late", x.safest(1, 60), NOT);
        is("begun in calm", x.safest(2, 60), 0);
        sentence("SAFEST. BAD; STATE; NOT.");
        anew();
        is("no PLACES", x.safest(0, 0), STATE);
        is("BAD is named first", x.safest(-1, 0), BAD);
        is("BAD is named first, too", x.safest(0, 61), BAD);
    }

    private void menFor() {
        sentence("MEN FOR: the fewest MEN (1 .. 6) by which a ROW's walk does not CRACK; NOT.");
        windyStreet(20, 20, 20);
        bytes(0, 3, 3, 3);
        // 60 by m at each.
        int[][] byStrength = {
            {999, 1}, {180, 1}, {179, 2}, {90, 2}, {89, 3}, {60, 3}, {59, 4}, {45, 4}, {44, 5}, {36, 5}, {35, 6}, {30, 6},
            {29, NOT}, {0, NOT},
        };
        for (int[] row : byStrength) {
            strength(row[0]);
            is("STRENGTH " + row[0], x.menFor(0, 0), row[1]);
        }
        strength(90);
        x.mend(0, MEN, 6);
        is("no matter how many there are", x.menFor(0, 0), 2);
        is("and there are so many still", x.of(0, MEN), 6);
        x.mend(0, SCRATCH, 1);
        is("85 left", x.menFor(0, 0), 3);
        law("m=6?0;99");
        is("by the text", x.menFor(0, 0), 6);
        law("m=1?0;99");
        is("one by the text", x.menFor(0, 0), 1);
        law("m=3|m=5?0;99");
        is("the fewest by the text", x.menFor(0, 0), 3);
        law("m=7|m=0?0;99");
        is("none by the text", x.menFor(0, 0), NOT);
    }

    private void van() {
        sentence("VAN: the least PLACE at which the van may stand, so that a ROW's walk (its bytes by PLACES), begun there in that minute, does not CRACK; NOT: not even in the shop.");
        windyStreet(20, 20, 20);
        bytes(0, 3, 3, 3);
        int[][] byStrength = {{90, 0}, {89, 1}, {60, 1}, {59, 2}, {30, 2}, {29, NOT}, {0, NOT}};
        for (int[] row : byStrength) {
            strength(row[0]);
            is("STRENGTH " + row[0], x.van(0, 0), row[1]);
        }
        // 30, 10, 10 by the bytes of PLACES; no turn where it begins.
        bytes(0, 3, 1, 1);
        strength(51);
        is("30, 11, 10", x.van(0, 0), 0);
        strength(50);
        is("10, 10", x.van(0, 0), 1);
        strength(20);
        is("no turn at the van", x.van(0, 0), 1);
        strength(19);
        is("the shop", x.van(0, 0), 2);
        strength(9);
        is("not even in the shop", x.van(0, 0), NOT);
        bytes(0, 3);
        strength(10);
        is("missing bytes are edge on: 5, 5", x.van(0, 0), 1);
        // Begun there in that minute: gusts in minutes 0 and 1 alone.
        street(20, 20, 20);
        bytes(0, 1, 1, 1);
        strength(10);
        is("from PLACE 0: 10, 10, 0; from 1 likewise; from 2: 10", x.van(0, 0), 2);
        is("begun in minute 1: 10, 0, 0", x.van(0, 1), 0);
        strength(9);
        is("10 in the shop in minute 1", x.van(0, 1), NOT);
        is("begun in 8: 0, 0, 10; from PLACE 1: 0, 0", x.van(0, 8), 1);
        is("begun in 9: 0, 10; in the shop: 0", x.van(0, 9), 2);
        law("p=2?5;p*9");
        strength(5);
        is("p is the PLACE as it is", x.van(0, 0), 2);
        street(4);
        bytes(0, 0);
        is("one PLACE", x.van(0, 0), 0);
        strength(0);
        is("one PLACE, and it CRACKS", x.van(0, 0), NOT);
    }

    private void windFrom() {
        sentence("WIND FROM: the least x (0 .. 30) by which, were all GUSTS x more, it CRACKS; NOT.");
        windyStreet(0, 0);
        bytes(0, 2, 2);
        // x at each.
        int[][] byStrength = {{0, 1}, {1, 1}, {2, 2}, {19, 10}, {57, 29}, {58, 30}, {59, 30}, {60, NOT}, {999, NOT}};
        for (int[] row : byStrength) {
            strength(row[0]);
            is("STRENGTH " + row[0], x.windFrom(0, 0), row[1]);
        }
        strength(59);
        x.mend(0, GUST, 30);
        x.mend(1, GUST, 30);
        is("as it is", x.windFrom(0, 0), 0);
        strength(119);
        is("GUSTS of 60", x.windFrom(0, 0), 30);
        strength(120);
        is("61 would be too much", x.windFrom(0, 0), NOT);
        is("GUSTS are as they were", x.of(0, GUST), 30);
        law("w");
        is("the text is told of it: 2 * 60 + 1", x.windFrom(0, 0), NOT);
        strength(100);
        is("2 * 51", x.windFrom(0, 0), 21);
        street(10, 10);
        x.mend(0, CALM, 10);
        x.mend(1, CALM, 10);
        bytes(0, 2, 2);
        strength(20);
        is("CALM is not more: 10 and 10", x.windFrom(0, 2), NOT);
        is("minute 1: one GUST, one CALM", x.windFrom(0, 1), 1);
        strength(24);
        is("one GUST of 15", x.windFrom(0, 1), 5);
        is("two GUSTS of 13", x.windFrom(0, 0), 3);
        strength(19);
        is("0 in calm, too", x.windFrom(0, 2), 0);
        // The STRAIN of a minute is held within 0 .. 99, without a text, too: 90 and 90, 96 and 96, 99 and 99.
        windyStreet(30, 30);
        x.mend(0, MEN, 1);
        bytes(0, 3, 3);
        strength(197);
        is("99 and 99", x.windFrom(0, 0), 3);
        strength(198);
        is("99 and 99 however windy", x.windFrom(0, 0), NOT);
    }

    private void scratchFor() {
        sentence("SCRATCH FOR: the greatest SCRATCH (0 .. 99) by which a ROW's walk does not CRACK; NOT.");
        windyStreet(20, 20);
        bytes(0, 0, 0);
        int[][] byStrength = {{9, NOT}, {10, 0}, {14, 0}, {15, 1}, {504, 98}, {505, 99}, {999, 99}, {0, NOT}};
        for (int[] row : byStrength) {
            strength(row[0]);
            is("STRENGTH " + row[0], x.scratchFor(0, 0), row[1]);
        }
        x.mend(0, SCRATCH, 77);
        strength(15);
        is("no matter how much it is scratched", x.scratchFor(0, 0), 1);
        is("and it is so still", x.of(0, SCRATCH), 77);
        law("0");
        int[][] calm = {{0, 0}, {4, 0}, {5, 1}, {494, 98}, {495, 99}, {999, 99}};
        for (int[] row : calm) {
            strength(row[0]);
            is("without strain by " + row[0], x.scratchFor(0, 0), row[1]);
        }
        law("s<3|s=40?9;0");
        strength(300);
        is("by the text", x.scratchFor(0, 0), 60);
        strength(20);
        is("4, though less would be too much", x.scratchFor(0, 0), 4);
        strength(17);
        is("3 is none, 0 is 18", x.scratchFor(0, 0), 3);
        law("s=4?0;99");
        strength(999);
        is("just one", x.scratchFor(0, 0), 99);
        strength(197);
        is("just 4", x.scratchFor(0, 0), 4);
        strength(19);
        is("not even 4", x.scratchFor(0, 0), NOT);
    }

    // ---- promises 10 to 18: what is refused

    /** What a wrong shelf, minute or number is told ahead of, in every call that asks for a ROW's walk. */
    private interface Asked {
        long of(int shelf, int minute);
    }

    private void wholeWays() {
        sentence("Where it CRACKS (what 0; NOT), the greatest ALL STRAIN (1), PASSES (2). BAD, -11, -12 (no ROW of bytes), STATE.");
        for (int what = 0; what <= 2; what++) {
            int w = what;
            refused((shelf, minute) -> x.walk(shelf, minute, w), true);
        }
        walkNumbers();
        sentence("START: the minute (what 0), the greatest ALL STRAIN (1). BAD, -11, -12, STATE.");
        for (int what = 0; what <= 1; what++) {
            int w = what;
            refused((shelf, minute) -> x.start(shelf, w), false);
        }
        anew();
        for (int what : new int[] {-1, 2}) is("what ahead of -11", x.start(0, what), BAD);
        x.row(0, 1, 1);
        for (int what : new int[] {-1, 2}) is("what ahead of -12", x.start(0, what), BAD);
        x.row(0, 0, 1);
        for (int what : new int[] {-1, 2}) is("what ahead of STATE", x.start(0, what), BAD);
    }

    private void walkNumbers() {
        anew();
        for (int what : new int[] {-1, 3}) is("what ahead of -11", x.walk(0, 0, what), BAD);
        x.row(0, 1, 1);
        for (int what : new int[] {-1, 3}) is("what ahead of -12", x.walk(0, 0, what), BAD);
        x.row(0, 0, 1);
        for (int what : new int[] {-1, 3}) is("what ahead of STATE", x.walk(0, 0, what), BAD);
        x.place(0, 0);
        for (int what : new int[] {-1, 3}) is("what of a street", x.walk(0, 0, what), BAD);
        for (int what : WILD) is("what far out", x.walk(0, 0, what), BAD);
    }

    private void refusedWalks() {
        sentence("MEN FOR. BAD, -11, -12, STATE; NOT.");
        refused((shelf, minute) -> x.menFor(shelf, minute), true);
        sentence("VAN. BAD, -11, -12, STATE; NOT.");
        refused((shelf, minute) -> x.van(shelf, minute), true);
        sentence("WIND FROM. BAD, -11, -12, STATE; NOT.");
        refused((shelf, minute) -> x.windFrom(shelf, minute), true);
        sentence("SCRATCH FOR. BAD, -11, -12, STATE; NOT.");
        refused((shelf, minute) -> x.scratchFor(shelf, minute), true);
    }

    private void refused(Asked asked, boolean hasMinute) {
        for (int places = 0; places <= 1; places++) {
            anew();
            if (places == 1) x.place(0, 0);
            x.body(0);
            x.keep(1, 0);
            x.row(5, 0, 0);
            for (int shelf : new int[] {-1, 6, Integer.MIN_VALUE, Integer.MAX_VALUE}) is("no such SHELF", asked.of(shelf, 0), BAD);
            is("nothing", asked.of(0, 0), NOTHING);
            is("a PACE", asked.of(1, 0), OTHER);
            for (int sort = 1; sort <= 4; sort++) {
                x.row(2, sort, 3);
                is("a ROW of " + sort, asked.of(2, 0), OTHER);
            }
            is("a ROW of bytes", asked.of(5, 0) == STATE ? 1 : 0, 1 - places);
            if (!hasMinute) continue;
            for (int shelf : new int[] {6, 0, 1, 2, 5}) {
                is("a wrong minute is named first", asked.of(shelf, -1), BAD);
                is("a wrong minute is named first, too", asked.of(shelf, 1000), BAD);
            }
        }
    }
}
