/** Each sentence on bodies, acts and shelves that names an edge, by a test of its own: Terms 5, promises 34 to 43. */
public final class EdgesOfShelvesTest extends Edges {
    private static final int MAX = Integer.MAX_VALUE, MIN = Integer.MIN_VALUE;
    private static final int[] ABOVE = {-1, 0, 0, 2, 1, 3, 0, 4};

    private EdgesOfShelvesTest() {
        super("EdgesOfShelvesTest");
    }

    public static void main(String[] args) {
        EdgesOfShelvesTest test = new EdgesOfShelvesTest();
        test.fiftyBodies();
        test.goes();
        test.strainsAndLeans();
        test.tells();
        test.wraps();
        test.numbers();
        test.actRefused();
        test.traces();
        test.traceIsOfTheLatest();
        test.sixShelves();
        test.rowsOfSixty();
        test.lowestBits();
        test.keepAnswers();
        test.rowAnswers();
        test.putAnswers();
        test.elementAnswers();
        test.shiftAsTheyWere();
        test.shiftPlaces();
        test.shiftRefused();
        test.takenAnswers();
        test.takenRefused();
        test.counts();
        test.ownMemory();
        test.callsOfOneObject();
        test.due.end();
    }

    private void oneOfEach() {
        anew();
        for (int kind = 0; kind < 8; kind++) x.body(kind);
    }

    private void fiftyBodies() {
        sentence("A PACE of a KIND (0 .. 7) is kept: its number. BAD, FULL.");
        anew();
        is("KIND -1", x.body(-1), BAD);
        is("KIND 8", x.body(8), BAD);
        for (int kind : WILD) is("KIND far out", x.body(kind), BAD);
        is("none", x.count(3), 0);
        for (int i = 0; i < 50; i++) is("body " + i, x.body(i % 8), i);
        for (int kind = 0; kind < 8; kind++) is("FULL for KIND " + kind, x.body(kind), FULL);
        is("BAD is named first", x.body(8), BAD);
        is("BAD is named first, too", x.body(-1), BAD);
        sentence("PACES' ways are kept by call as BODIES 0 .. 49");
        is("fifty", x.count(3), 50);
        is("49 is there", x.keep(0, 49), 1);
        is("of KIND 1", x.taken(0, 0), 1);
        is("it acts: 5 + 49 + 3", x.act(49, 0, 5), 57);
        is("50 is not", x.keep(0, 50), BAD);
        is("nor acts", x.act(50, 0, 5), 0);
    }

    private void acts(String what, int body, int act, int value, int value5, int... trace) {
        is(what + " of 0", x.act(body, act, 0), value);
        is(what + " of 5", x.act(body, act, 5), value5);
        traced(trace);
    }

    private void traced(int... want) {
        is("how many ran", x.count(4), want.length);
        for (int i = 0; i < want.length; i++) is("trace " + i, x.trace(i), want[i]);
        for (int i = want.length; i <= 25; i++) is("behind the trace", x.trace(i), BAD);
    }

    private void goes() {
        sentence("GOES (an interface of PACE): 1 goes: x + n.");
        oneOfEach();
        acts("PACE goes", 0, 0, 0, 5, 1);
        acts("FLAT goes", 2, 0, 2, 7, 1);
        acts("GUST goes", 3, 0, 3, 8, 1);
        acts("CRACK goes", 5, 0, 5, 10, 1);
        sentence("EDGE: 20 goes: super.goes(x) + 3.");
        acts("EDGE goes", 1, 0, 4, 9, 20, 1);
        acts("KERB goes", 4, 0, 7, 12, 20, 1);
        acts("HOOP goes", 7, 0, 10, 15, 20, 1);
        sentence("REST: 70 goes: super.goes(x) * 2.");
        acts("REST goes", 6, 0, 12, 22, 70, 1);
    }

    private void strainsAndLeans() {
        sentence("PACE: 10 strains: goes(x) * 2. 11 leans: x ^ n.");
        oneOfEach();
        acts("PACE strains", 0, 1, 0, 10, 10, 1);
        acts("EDGE strains", 1, 1, 8, 18, 10, 20, 1);
        acts("KERB strains", 4, 1, 14, 24, 10, 20, 1);
        acts("REST strains", 6, 1, 24, 44, 10, 70, 1);
        acts("PACE leans", 0, 2, 0, 5, 11);
        acts("EDGE leans", 1, 2, 1, 4, 11);
        acts("FLAT leans", 2, 2, 2, 7, 11);
        acts("REST leans", 6, 2, 6, 3, 11);
        sentence("FLAT: 30 strains: -super.strains(x).");
        acts("FLAT strains", 2, 1, -4, -14, 30, 10, 1);
        sentence("GUST: 40 leans: super.leans(x) * 3. 41 strains: super.strains(x + 1).");
        acts("GUST strains", 3, 1, -8, -18, 41, 30, 10, 1);
        acts("CRACK strains", 5, 1, -12, -22, 41, 30, 10, 1);
        acts("GUST leans", 3, 2, 9, 18, 40, 11);
        acts("CRACK leans", 5, 2, 15, 0, 40, 11);
        sentence("KERB: 50 leans: super.leans(x) - goes(2).");
        acts("KERB leans", 4, 2, 4 - 9, 1 - 9, 50, 11, 20, 1);
        acts("HOOP leans", 7, 2, 7 - 12, 2 - 12, 50, 11, 20, 1);
        sentence("HOOP: 80 strains: super.strains(x) + leans(2).");
        // leans(2) is (2 ^ 7) - goes(2).
        acts("HOOP strains", 7, 1, 20 + 5 - 12, 30 + 5 - 12, 80, 10, 20, 1, 50, 11, 20, 1);
    }

    private void tells() {
        sentence("TELLS (of PACE): 2 tells: strains(x) - leans(1).");
        oneOfEach();
        acts("PACE tells", 0, 3, 0 - 1, 10 - 1, 2, 10, 1, 11);
        acts("EDGE tells", 1, 3, 8 - 0, 18 - 0, 2, 10, 20, 1, 11);
        acts("FLAT tells", 2, 3, -4 - 3, -14 - 3, 2, 30, 10, 1, 11);
        acts("GUST tells", 3, 3, -8 - 6, -18 - 6, 2, 41, 30, 10, 1, 40, 11);
        acts("KERB tells", 4, 3, 14 - (5 - 9), 24 - (5 - 9), 2, 10, 20, 1, 50, 11, 20, 1);
        acts("REST tells", 6, 3, 24 - 7, 44 - 7, 2, 10, 70, 1, 11);
        sentence("CRACK: 60 tells: super.tells(x) ^ 5.");
        acts("CRACK tells", 5, 3, -12 - 12 ^ 5, -22 - 12 ^ 5, 60, 2, 41, 30, 10, 1, 40, 11);
        sentence("81 tells: super.tells(x) - 1.");
        // strains(x) less leans(1), that is 6 - 12, less 1.
        acts("HOOP tells", 7, 3, 13 + 6 - 1, 23 + 6 - 1, 81, 2, 80, 10, 20, 1, 50, 11, 20, 1, 50, 11, 20, 1);
    }

    private void wraps() {
        sentence("ACTS with x (an int that wraps)");
        oneOfEach();
        is("EDGE goes: wraps", x.act(1, 0, MAX), MIN + 3);
        is("PACE goes: the most", x.act(0, 0, MAX), MAX);
        is("PACE strains: twice the most", x.act(0, 1, MAX), -2);
        is("PACE strains: twice the least", x.act(0, 1, MIN), 0);
        is("FLAT strains", x.act(2, 1, MAX), -((MAX + 2) * 2));
        is("FLAT strains: what has no other sign", x.act(2, 1, MIN / 2 - 2), MIN);
        is("GUST strains: x + 1 wraps", x.act(3, 1, MAX), -((MIN + 3) * 2));
        is("GUST leans: three times", x.act(3, 2, MAX), (MAX ^ 3) * 3);
        is("KERB leans: below the least", x.act(4, 2, MIN), (MIN ^ 4) - 9);
        is("PACE leans: by bits", x.act(0, 2, -1), -1);
        is("EDGE leans: by bits", x.act(1, 2, MIN), MIN + 1);
        is("REST goes", x.act(6, 0, MAX), (MAX + 6) * 2);
        is("PACE tells", x.act(0, 3, MIN), -1);
        is("CRACK tells", x.act(5, 3, MAX), -((MIN + 5) * 2) - 12 ^ 5);
        is("HOOP strains", x.act(7, 1, MAX), (MAX + 10) * 2 - 7);
        is("HOOP tells", x.act(7, 3, MIN), (MIN + 10) * 2 - 7 + 6 - 1);
    }

    private void numbers() {
        sentence("3 tells; n its number.");
        anew();
        for (int i = 0; i < 50; i++) x.body(0);
        for (int i = 0; i < 50; i += 7) {
            is("goes by n", x.act(i, 0, 100), 100 + i);
            is("leans by n", x.act(i, 2, 100), 100 ^ i);
        }
        is("the last", x.act(49, 0, 100), 149);
    }

    private void actRefused() {
        sentence("An ACT (0 .. 3) of a PACE with x. 0, and no TRACE then: no such PACE, ACT.");
        int[][] wrong = {{8, 0}, {-1, 0}, {50, 0}, {0, 4}, {0, -1}, {7, 4}, {-1, -1}, {MIN, 0}, {MAX, 0}, {0, MIN}, {0, MAX}};
        for (int[] one : wrong) {
            oneOfEach();
            x.act(7, 3, 5);
            is("fourteen ran", x.count(4), 14);
            is("no such PACE, ACT", x.act(one[0], one[1], 5), 0);
            traced();
        }
        anew();
        is("no PACES", x.act(0, 0, 5), 0);
        traced();
    }

    private void traces() {
        sentence("numbers of the bodies that ran in the latest act(), as they began; the first 24 are kept");
        oneOfEach();
        x.act(7, 3, 5);
        // No KIND's act runs more than these fourteen, so the 24 cannot be overrun.
        traced(81, 2, 80, 10, 20, 1, 50, 11, 20, 1, 50, 11, 20, 1);
        sentence("THE TRACE's i-th body. BAD.");
        is("i -1", x.trace(-1), BAD);
        is("i 0", x.trace(0), 81);
        is("i 13", x.trace(13), 1);
        is("i 14", x.trace(14), BAD);
        is("i 23", x.trace(23), BAD);
        is("i 24", x.trace(24), BAD);
        for (int i : WILD) is("i far out", x.trace(i), BAD);
        anew();
        is("nothing ran yet", x.trace(0), BAD);
    }

    private void traceIsOfTheLatest() {
        sentence("in the latest act()");
        oneOfEach();
        x.act(7, 3, 5);
        x.act(0, 0, 5);
        traced(1);
        x.act(1, 1, 5);
        traced(10, 20, 1);
        x.body(0);
        x.keep(0, 0);
        x.taken(0, 0);
        traced(10, 20, 1);
    }

    // ---- shelves

    private void sixShelves() {
        sentence("SHELVES 0 .. 5 each hold nothing (at first), a PACE (a BODY), or a ROW");
        anew();
        x.body(3);
        for (int shelf = 0; shelf < 6; shelf++) {
            is("nothing at first", x.taken(shelf, 0), NOTHING);
            is("nothing to put in", x.put(shelf, 0, 1), NOTHING);
            is("nothing to see", x.element(shelf, 0), LONG_BAD);
            is("a PACE", x.keep(shelf, 0), 1);
            is("its KIND", x.taken(shelf, 0), 3);
            is("no ROW", x.put(shelf, 0, 1), OTHER);
            is("a ROW", x.row(shelf, 2, 1), 1);
            is("no PACE", x.taken(shelf, 0), OTHER);
            is("put", x.put(shelf, 0, 70 + shelf), 1);
        }
        for (int shelf = 0; shelf < 6; shelf++) is("each its own", x.element(shelf, 0), 70 + shelf);
        for (int shelf : new int[] {-1, 6, MIN, MAX}) {
            is("no SHELF to keep", x.keep(shelf, 0), BAD);
            is("no SHELF to keep nothing", x.keep(shelf, -1), BAD);
            is("no SHELF for a ROW", x.row(shelf, 0, 1), BAD);
            is("no SHELF to put", x.put(shelf, 0, 1), BAD);
            is("no SHELF to see", x.element(shelf, 0), LONG_BAD);
            is("no SHELF to shift from", x.shift(shelf, 0, 0, 0, 0), BAD);
            is("no SHELF to shift to", x.shift(0, 0, shelf, 0, 0), BAD);
            is("no SHELF to take", x.taken(shelf, 0), BAD);
        }
    }

    private void rowsOfSixty() {
        sentence("of 0 .. 60 elements, 0 at first (false)");
        for (int sort = 0; sort < 5; sort++) {
            anew();
            is("none", x.row(0, sort, 0), 1);
            is("has no first", x.element(0, 0), LONG_BAD);
            is("one", x.row(0, sort, 1), 1);
            is("has a first", x.element(0, 0), 0);
            is("has no second", x.element(0, 1), LONG_BAD);
            is("sixty", x.row(0, sort, 60), 1);
            for (int i = 0; i < 60; i++) is("0 at first", x.element(0, i), 0);
            is("no sixty-first", x.element(0, 60), LONG_BAD);
            for (int i = 0; i < 60; i++) is("put", x.put(0, i, 1), 1);
            is("sixty-one", x.row(0, sort, 61), BAD);
            is("it stays", x.element(0, 59), 1);
            is("sixty again", x.row(0, sort, 60), 1);
            for (int i = 0; i < 60; i++) is("0 again", x.element(0, i), 0);
        }
    }

    private void lowestBits() {
        sentence("what is put in keeps its lowest bits (a boolean: whether it is not 0; 1 or 0)");
        long[] puts = {
            0, 1, -1, 127, 128, 255, 256, -128, -129, 32767, 32768, 65535, 65536, -32769, 2147483647L, 2147483648L,
            4294967295L, 4294967296L, -2147483649L, Long.MAX_VALUE, Long.MIN_VALUE, 1L << 40, -256,
        };
        anew();
        for (int sort = 0; sort < 5; sort++) x.row(sort, sort, 2);
        for (long v : puts) {
            for (int sort = 0; sort < 5; sort++) is("put", x.put(sort, 1, v), 1);
            is("a byte of " + v, x.element(0, 1), (byte) v);
            is("a short of " + v, x.element(1, 1), (short) v);
            is("an int of " + v, x.element(2, 1), (int) v);
            is("a long of " + v, x.element(3, 1), v);
            is("a boolean of " + v, x.element(4, 1), v == 0 ? 0 : 1);
        }
    }

    private void keepAnswers() {
        sentence("A SHELF holds nothing (body -1), or a PACE: 1. BAD.");
        anew();
        is("nothing on nothing", x.keep(0, -1), 1);
        is("no PACE yet", x.keep(0, 0), BAD);
        is("nothing still", x.taken(0, 0), NOTHING);
        x.body(2);
        x.body(6);
        is("the first", x.keep(0, 0), 1);
        is("its KIND", x.taken(0, 0), 2);
        is("the second", x.keep(0, 1), 1);
        is("its KIND", x.taken(0, 0), 6);
        for (int body : new int[] {-2, 2, 50, MIN, MAX}) is("no such PACE " + body, x.keep(0, body), BAD);
        is("it stays", x.taken(0, 0), 6);
        is("nothing", x.keep(0, -1), 1);
        is("is nothing", x.taken(0, 0), NOTHING);
        x.row(0, 0, 3);
        is("instead of a ROW", x.keep(0, 1), 1);
        is("no ROW any more", x.put(0, 0, 1), OTHER);
        x.row(0, 0, 3);
        is("nothing instead of a ROW", x.keep(0, -1), 1);
        is("nothing there", x.put(0, 0, 1), NOTHING);
    }

    private void rowAnswers() {
        sentence("A SHELF holds a ROW: 1. BAD (sort, n above 60); -14.");
        anew();
        is("sort -1", x.row(0, -1, 1), BAD);
        is("sort 5", x.row(0, 5, 1), BAD);
        for (int sort : WILD) is("sort far out", x.row(0, sort, 1), BAD);
        is("n 61", x.row(0, 0, 61), BAD);
        is("n far above", x.row(0, 0, MAX), BAD);
        is("n -1", x.row(0, 0, -1), BELOW_0);
        is("n far below", x.row(0, 0, MIN), BELOW_0);
        is("the sort is named first", x.row(0, 5, -1), BAD);
        is("the SHELF is named first", x.row(6, 0, -1), BAD);
        is("nothing still", x.taken(0, 0), NOTHING);
        is("n 0", x.row(0, 4, 0), 1);
        is("n 60", x.row(0, 0, 60), 1);
        x.put(0, 59, 7);
        is("n -1 again", x.row(0, 1, -1), BELOW_0);
        is("it stays", x.element(0, 59), 7);
    }

    private void putAnswers() {
        sentence("Element i of a ROW becomes v: 1. BAD, -11, -12, -13.");
        anew();
        x.body(0);
        x.row(1, 3, 3);
        x.keep(2, 0);
        x.row(3, 0, 0);
        for (int i : new int[] {-1, 3, 60, MIN, MAX}) {
            is("no place " + i, x.put(1, i, 9), NO_PLACE);
            is("nothing is named first", x.put(0, i, 9), NOTHING);
            is("another kind is named first", x.put(2, i, 9), OTHER);
            is("no SHELF is named first", x.put(6, i, 9), BAD);
            is("no place of none", x.put(3, i, 9), NO_PLACE);
        }
        is("no place 0 of none", x.put(3, 0, 9), NO_PLACE);
        for (int i = 0; i < 3; i++) is("0 still", x.element(1, i), 0);
        is("the first", x.put(1, 0, 7), 1);
        is("the last", x.put(1, 2, 8), 1);
        int[] want = {7, 0, 8};
        for (int i = 0; i < 3; i++) is("as put", x.element(1, i), want[i]);
    }

    private void elementAnswers() {
        sentence("Element i of a ROW; Long.MIN_VALUE: BAD, -11 to -13.");
        anew();
        x.body(0);
        row(1, 3, 7, 8, 9);
        x.keep(2, 0);
        x.row(3, 0, 0);
        for (int i = 0; i < 3; i++) is("element " + i, x.element(1, i), 7 + i);
        for (int i : new int[] {-1, 3, 60, MIN, MAX}) is("no place " + i, x.element(1, i), LONG_BAD);
        is("nothing", x.element(0, 0), LONG_BAD);
        is("a PACE", x.element(2, 0), LONG_BAD);
        is("none", x.element(3, 0), LONG_BAD);
        is("SHELF 6", x.element(6, 0), LONG_BAD);
        is("SHELF -1", x.element(-1, 0), LONG_BAD);
    }

    private void elements(int shelf, int... want) {
        for (int i = 0; i < want.length; i++) is("element " + i, x.element(shelf, i), want[i]);
        is("no more", x.element(shelf, want.length), LONG_BAD);
    }

    private void shiftAsTheyWere() {
        sentence("n elements of a ROW from i on come to another one (or the same) from j on, as they all were before: n.");
        anew();
        bytes(0, 1, 2, 3, 4, 5);
        is("up by one", x.shift(0, 0, 0, 1, 4), 4);
        elements(0, 1, 1, 2, 3, 4);
        bytes(0, 1, 2, 3, 4, 5);
        is("down by one", x.shift(0, 1, 0, 0, 4), 4);
        elements(0, 2, 3, 4, 5, 5);
        bytes(0, 1, 2, 3, 4, 5);
        is("up by two", x.shift(0, 0, 0, 2, 3), 3);
        elements(0, 1, 2, 1, 2, 3);
        is("onto itself", x.shift(0, 0, 0, 0, 5), 5);
        elements(0, 1, 2, 1, 2, 3);
        for (int sort = 0; sort < 5; sort++) {
            row(1, sort, 1, 0, 1, 1);
            row(2, sort, 0, 1, 0, 0);
            is("to another of " + sort, x.shift(1, 1, 2, 0, 3), 3);
            elements(2, 0, 1, 1, 0);
            elements(1, 1, 0, 1, 1);
        }
    }

    private void shiftPlaces() {
        sentence("BAD, -11 (either), -12 (no ROWS, or of unlike sorts), -13.");
        anew();
        bytes(0, 1, 2, 3);
        bytes(1, 4, 5);
        is("all of it", x.shift(1, 0, 0, 0, 2), 2);
        elements(0, 4, 5, 3);
        is("none from the end to the end", x.shift(0, 3, 1, 2, 0), 0);
        is("none at the beginning", x.shift(0, 0, 1, 0, 0), 0);
        is("none from behind the end", x.shift(0, 4, 1, 0, 0), NO_PLACE);
        is("none to behind the end", x.shift(0, 0, 1, 3, 0), NO_PLACE);
        is("none from ahead", x.shift(0, -1, 1, 0, 0), NO_PLACE);
        is("none to ahead", x.shift(0, 0, 1, -1, 0), NO_PLACE);
        is("one from ahead", x.shift(0, -1, 1, 0, 1), NO_PLACE);
        is("one to ahead", x.shift(0, 0, 1, -1, 1), NO_PLACE);
        is("one from the end", x.shift(0, 3, 1, 0, 1), NO_PLACE);
        is("one to the end", x.shift(0, 0, 1, 2, 1), NO_PLACE);
        is("more than it has", x.shift(1, 0, 0, 0, 3), NO_PLACE);
        is("more than there is room", x.shift(0, 0, 1, 0, 3), NO_PLACE);
        is("n -1", x.shift(0, 0, 1, 0, -1), NO_PLACE);
        is("n -1 from the end", x.shift(0, 3, 1, 2, -1), NO_PLACE);
        for (int far : new int[] {MIN, MAX, MAX - 1}) {
            is("i far out", x.shift(0, far, 1, 0, 1), NO_PLACE);
            is("j far out", x.shift(0, 0, 1, far, 1), NO_PLACE);
            is("n far out", x.shift(0, 1, 1, 1, far), NO_PLACE);
            is("all far out", x.shift(0, far, 1, far, far), NO_PLACE);
        }
        elements(0, 4, 5, 3);
        elements(1, 4, 5);
        x.row(2, 0, 0);
        is("none from none", x.shift(2, 0, 2, 0, 0), 0);
        is("one from none", x.shift(2, 0, 0, 0, 1), NO_PLACE);
    }

    private void shiftRefused() {
        sentence("-11 (either), -12 (no ROWS, or of unlike sorts), -13");
        anew();
        x.body(0);
        x.keep(5, 0);
        for (int sort = 0; sort < 4; sort++) x.row(sort, sort, 3);
        for (int a = 0; a < 4; a++) {
            for (int b = 0; b < 4; b++) is("sorts " + a + ", " + b, x.shift(a, 0, b, 0, 3), a == b ? 3 : OTHER);
            is("nothing there", x.shift(a, 0, 4, 0, 1), NOTHING);
            is("nothing here", x.shift(4, 0, a, 0, 1), NOTHING);
            is("a PACE there", x.shift(a, 0, 5, 0, 1), OTHER);
            is("a PACE here", x.shift(5, 0, a, 0, 1), OTHER);
        }
        is("nothing to nothing", x.shift(4, 0, 4, 0, 0), NOTHING);
        is("a PACE to a PACE", x.shift(5, 0, 5, 0, 0), OTHER);
        is("a PACE to nothing: -11 is named first", x.shift(5, 0, 4, 0, 0), NOTHING);
        is("nothing to a PACE: -11 is named first", x.shift(4, 0, 5, 0, 0), NOTHING);
        is("unlike sorts ahead of -13", x.shift(0, 9, 1, 9, 9), OTHER);
        is("nothing ahead of -13", x.shift(0, 9, 4, 9, 9), NOTHING);
        is("no SHELF ahead of nothing", x.shift(4, 0, 6, 0, 0), BAD);
        is("no SHELF ahead of nothing, too", x.shift(-1, 0, 4, 0, 0), BAD);
        x.row(3, 4, 3);
        for (int a = 0; a < 3; a++) is("booleans from " + a, x.shift(a, 0, 3, 0, 1), OTHER);
        is("booleans", x.shift(3, 0, 3, 0, 3), 3);
    }

    private void takenAnswers() {
        sentence("What a SHELF holds, taken for a PACE of KIND k (0 .. 7), or under it: its KIND. BAD, -11, -12.");
        oneOfEach();
        for (int kind = 0; kind < 8; kind++) {
            x.keep(kind % 6, kind);
            for (int k = 0; k < 8; k++) {
                boolean isUnder = false;
                for (int up = kind; up >= 0; up = ABOVE[up]) isUnder |= up == k;
                is("KIND " + kind + " for " + k, x.taken(kind % 6, k), isUnder ? kind : OTHER);
            }
        }
        for (int i = 8; i < 50; i++) x.body(i % 8);
        x.keep(0, 47);
        is("by its KIND, not its number", x.taken(0, 4), 7);
    }

    private void takenRefused() {
        sentence("of KIND k (0 .. 7), or under it: its KIND. BAD, -11, -12.");
        anew();
        x.body(0);
        x.keep(1, 0);
        x.row(2, 0, 3);
        for (int k = 0; k < 8; k++) {
            is("nothing", x.taken(0, k), NOTHING);
            is("a ROW", x.taken(2, k), OTHER);
            is("a PACE for " + k, x.taken(1, k), k == 0 ? 0 : OTHER);
        }
        for (int k : new int[] {-1, 8, MIN, MAX}) {
            for (int shelf = 0; shelf < 3; shelf++) is("BAD is named first", x.taken(shelf, k), BAD);
        }
    }

    private void counts() {
        sentence("How many: 0 PLACES, 1 bytes on THE TAPE, 2 changes that may be UNDONE, 3 BODIES, 4 bodies that ran in the latest act() (all, kept or not). BAD.");
        anew();
        for (int what = 0; what <= 4; what++) is("none of " + what, x.count(what), 0);
        is("what -1", x.count(-1), BAD);
        is("what 5", x.count(5), BAD);
        for (int what : WILD) is("what far out", x.count(what), BAD);
        for (int i = 0; i < 12; i++) x.place(1, 1);
        for (int i = 0; i < 11; i++) x.feed('w');
        for (int i = 0; i < 10; i++) x.mend(0, KERB, (i + 1) % 10);
        for (int i = 0; i < 9; i++) x.body(7);
        x.act(0, 3, 1);
        int[] want = {12, 11, 10, 9, 14};
        for (int what = 0; what <= 4; what++) is("how many of " + what, x.count(what), want[what]);
        x.undo();
        x.law();
        x.act(9, 3, 1);
        is("one was UNDONE", x.count(2), 9);
        is("the tape is empty", x.count(1), 0);
        is("no TRACE", x.count(4), 0);
        x.redo();
        is("DONE AGAIN", x.count(2), 10);
    }

    private void ownMemory() {
        sentence("All memory is the class's own.");
        windyStreet(20, 20);
        PaneAcross other = new PaneAcross();
        law("7");
        x.feed('w');
        x.body(7);
        x.act(0, 3, 1);
        x.row(0, 0, 2);
        x.out(0, 0);
        x.image();
        x.undo();
        x.undo();
        is("other PLACES", other.place(9, 0), 0);
        is("another LAW", other.strain(0, 0), 2);
        int[] none = {1, 0, 0, 0, 0};
        for (int what = 0; what <= 4; what++) is("none of " + what, other.count(what), none[what]);
        is("another SHELF", other.element(0, 0), LONG_BAD);
        is("another TRACE", other.trace(0), BAD);
        is("another walk", other.pace(0), STATE);
        is("another IMAGE", other.back(), STATE);
        is("other changes", other.redo(), STATE);
        other.mend(0, STRENGTH, 1);
        other.body(0);
        other.row(0, 3, 60);
        other.act(0, 0, 1);
        is("the first object's STRENGTH", x.of(0, STRENGTH), 99);
        is("its BODY", x.act(0, 0, 1), 4);
        is("its ROW", x.element(0, 2), LONG_BAD);
        is("its changes", x.redo(), 1);
        is("its walk", x.pace(0), 1);
    }

    private void callsOfOneObject() {
        sentence("An object is used for at most 512 calls after it has been made");
        street(0, 0);
        is("the third", x.body(2), 0);
        is("the fourth", x.keep(5, 0), 1);
        for (int i = 0; i < 169; i++) {
            int paces = i + 1;
            is("out", x.out(i, 0), 1);
            is("pace", x.pace(0), 1);
            is("arrived", x.led(i % 2 == 0 ? 0 : 2), paces);
        }
        is("the 512th", x.taken(5, 2), 2);
    }
}
