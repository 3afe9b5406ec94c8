/** Each sentence on places, men and wind that names an edge, by a test of its own: Terms 1, promises 1 to 6. */
public final class EdgesOfPlacesTest extends Edges {
    private EdgesOfPlacesTest() {
        super("EdgesOfPlacesTest");
    }

    public static void main(String[] args) {
        EdgesOfPlacesTest test = new EdgesOfPlacesTest();
        test.fromNoneToTwelve();
        test.vanAndShop();
        test.ranges();
        test.gustOrCalm();
        test.somebodyWalksIntoIt();
        test.tooNarrow();
        test.newObject();
        test.placeAnswers();
        test.placesByThrees();
        test.placesEnd();
        test.placesFromOn();
        test.placesRefused();
        test.mendAnswers();
        test.mendRefused();
        test.ofAnswers();
        test.windAnswers();
        test.due.end();
    }

    private void fromNoneToTwelve() {
        sentence("PLACES 0 .. 11 (at first none)");
        anew();
        is("none", x.count(0), 0);
        is("no PLACE 0", x.wind(0, 0), BAD);
        for (int i = 0; i < 12; i++) {
            is("no PLACE yet", x.wind(i, 0), BAD);
            is("the next", x.place(5, 0), i);
            is("it is there", x.wind(i, 0), 5);
        }
        is("a thirteenth", x.place(5, 0), FULL);
        is("no PLACE 12", x.wind(12, 0), BAD);
        is("twelve", x.count(0), 12);
    }

    private void vanAndShop() {
        sentence("the van in PLACE 0, the shop in the last one");
        street(0, 0, 0);
        x.out(0, 0);
        is("it begins in PLACE 0", x.led(5), 0);
        x.pace(0);
        is("PLACE 1 is not the shop", x.led(5), 1);
        x.pace(0);
        is("PLACE 2 is", x.led(0), 1);
        is("two paces", x.soonest(0), 2);
        x.place(0, 0);
        is("the shop is behind the new one", x.soonest(0), 3);
        for (int i = 4; i < 12; i++) x.place(0, 0);
        is("eleven paces", x.soonest(0), 11);
    }

    private void ranges() {
        range("GUST (0 .. 30)", GUST, 0, 30, 7);
        range("CALM (0 .. 30; 0 at first)", CALM, 0, 30, 0);
        range("EVERY (1 .. 60; 10 at first)", EVERY, 1, 60, 10);
        range("LASTS (0 .. 60; 2 at first)", LASTS, 0, 60, 2);
        range("KERB (0 .. 9; 0 at first)", KERB, 0, 9, 0);
        range("PEOPLE (0 .. 12; 0 at first", PEOPLE, 0, 12, 0);
        range("NARROW (0 .. 3; 3 at first", NARROW, 0, 3, 3);
        range("MEN (1 .. 6; 2 at first)", MEN, 1, 6, 2);
        range("STRENGTH (0 .. 999; 99 at first)", STRENGTH, 0, 999, 99);
        range("SCRATCH (0 .. 99; 0 at first)", SCRATCH, 0, 99, 0);
        range("PANE (0 .. 999; 400 at first)", PANE, 0, 999, 400);
    }

    private void range(String quoted, int what, int least, int most, int first) {
        sentence(quoted);
        street(7);
        is("at first", x.of(0, what), first);
        is("too little", x.mend(0, what, least - 1), BAD);
        is("too much", x.mend(0, what, most + 1), BAD);
        for (int v : WILD) is("far out", x.mend(0, what, v), BAD);
        is("as it was", x.of(0, what), first);
        is("the most", x.mend(0, what, most), first);
        is("is the most", x.of(0, what), most);
        is("more than the most", x.mend(0, what, most + 1), BAD);
        is("the least", x.mend(0, what, least), most);
        is("is the least", x.of(0, what), least);
        is("less than the least", x.mend(0, what, least - 1), BAD);
        is("the least still", x.of(0, what), least);
    }

    private void gustOrCalm() {
        sentence("in a minute m the WIND there is GUST, if m % EVERY is below LASTS, else CALM");
        street(20);
        x.mend(0, CALM, 3);
        int[] byMinutes = {20, 20, 3, 3, 3, 3, 3, 3, 3, 3, 20, 20, 3};
        for (int m = 0; m < byMinutes.length; m++) is("minute " + m, x.wind(0, m), byMinutes[m]);
        winds(10, 0, 0, 3);
        winds(10, 9, 8, 20);
        winds(10, 9, 9, 3);
        winds(10, 10, 9, 20);
        winds(10, 60, 9, 20);
        winds(1, 0, 0, 3);
        winds(1, 1, 0, 20);
        winds(1, 1, 9999, 20);
        winds(60, 59, 58, 20);
        winds(60, 59, 59, 3);
        winds(60, 59, 60, 20);
        winds(60, 59, 119, 3);
        winds(60, 60, 59, 20);
        // 9999 is 7 * 1428 + 3.
        winds(7, 4, 9999, 20);
        winds(7, 3, 9999, 3);
    }

    private void winds(int every, int lasts, int minute, int want) {
        blows(0, every, lasts);
        is(lasts + " of " + every + " in minute " + minute, x.wind(0, minute), want);
    }

    private void somebodyWalksIntoIt() {
        sentence("in so many of twelve minutes somebody would walk into it");
        people(0);
        fraction("never", 1, x.free(0), 1, x.free(1));
        is("all thirty come", x.drawn(1, 300, 0), 30);
        x.mend(0, PEOPLE, 1);
        fraction("in one", 11, x.free(0), 12, x.free(1));
        x.mend(0, PEOPLE, 11);
        fraction("in eleven", 1, x.free(0), 12, x.free(1));
        x.mend(0, PEOPLE, 12);
        fraction("always", 0, x.free(0), 1, x.free(1));
        is("none of thirty comes", x.drawn(1, 300, 0), 0);
    }

    private void tooNarrow() {
        sentence("held flatter than this it does not pass");
        for (int narrow = 0; narrow <= 3; narrow++) {
            for (int h = 0; h <= 3; h++) {
                street(0, 0);
                bytes(0, 0, h);
                x.mend(1, NARROW, narrow);
                String what = "NARROW " + narrow + " held as " + h;
                boolean passes = h <= narrow;
                is(what + " in thought", x.walk(0, 0, 2), passes ? 1 : 0);
                is(what + " anywhere else", x.out(0, h), 1);
                is(what + " in deed", x.pace(h), passes ? 1 : NOT);
                x.mend(0, NARROW, narrow);
                bytes(0, h, 0);
                is(what + " at the van", x.walk(0, 0, 2), passes ? 1 : 0);
            }
        }
    }

    private void newObject() {
        sentence("No street yet.");
        anew();
        for (int what = 0; what <= 4; what++) is("count " + what, x.count(what), 0);
        is("no PLACE", x.of(0, GUST), BAD);
        is("no way", x.soonest(0), STATE);
        led(0, 0, 0, 0, VOID, NOT, 0);
        is("no image", x.back(), STATE);
        is("nothing to undo", x.undo(), STATE);
        is("nothing to do again", x.redo(), STATE);
        is("no body", x.act(0, 0, 1), 0);
        for (int shelf = 0; shelf < 6; shelf++) is("an empty shelf", x.taken(shelf, 0), NOTHING);
        PaneAcross other = new PaneAcross();
        x.place(1, 1);
        is("each object has its own street", other.count(0), 0);
    }

    private void placeAnswers() {
        sentence("A PLACE behind the last one: its number. BAD, FULL: 12.");
        anew();
        is("GUST -1", x.place(-1, 0), BAD);
        is("GUST 31", x.place(31, 0), BAD);
        is("PEOPLE -1", x.place(0, -1), BAD);
        is("PEOPLE 13", x.place(0, 13), BAD);
        for (int v : WILD) is("GUST far out", x.place(v, 0), BAD);
        for (int v : WILD) is("PEOPLE far out", x.place(0, v), BAD);
        is("none came", x.count(0), 0);
        is("the least of both", x.place(0, 0), 0);
        is("the most of both", x.place(30, 12), 1);
        int[][] want = {{0, 0, 10, 2, 0, 0, 3}, {30, 0, 10, 2, 0, 12, 3}};
        for (int p = 0; p < 2; p++) for (int what = 0; what < 7; what++) is("PLACE " + p + ": " + what, x.of(p, what), want[p][what]);
        for (int i = 2; i < 12; i++) is("the next", x.place(1, 1), i);
        is("FULL", x.place(1, 1), FULL);
        is("FULL by the most", x.place(30, 12), FULL);
        is("BAD is named first", x.place(31, 0), BAD);
        is("BAD is named first, too", x.place(0, 13), BAD);
        is("the ahead ones are as they were", x.of(1, GUST), 30);
        is("a PLACE is no change", x.count(2), 0);
    }

    private void placesByThrees() {
        sentence("by threes GUST, KERB, PEOPLE: n of them");
        anew();
        bytes(0, 30, 9, 12, 0, 0, 0, 4, 5, 6);
        is("two of three", x.places(0, 0, 2), 2);
        is("the third did not come", x.count(0), 2);
        is("all three", x.places(0, 0, 3), 3);
        int[][] want = {{30, 0, 10, 2, 9, 12, 3}, {0, 0, 10, 2, 0, 0, 3}, {30, 0, 10, 2, 9, 12, 3}, {0, 0, 10, 2, 0, 0, 3}, {4, 0, 10, 2, 5, 6, 3}};
        for (int p = 0; p < 5; p++) for (int what = 0; what < 7; what++) is("PLACE " + p + ": " + what, x.of(p, what), want[p][what]);
        is("PLACES are no changes", x.count(2), 0);
    }

    private void placesEnd() {
        sentence("it ends where the row is missing, ends (within a three, too), one is not so, or PLACES are FULL: those ahead came");
        anew();
        is("the row is missing", x.places(0, 0, 1), 0);
        int[] came = {0, 0, 0, 1, 1, 1, 2, 2, 2, 3};
        for (int length = 0; length < came.length; length++) {
            anew();
            x.row(0, 0, length);
            is("a row of " + length, x.places(0, 0, 12), came[length]);
            is("so many came", x.count(0), came[length]);
        }
        int[][] notSo = {{31, 0, 0}, {-1, 0, 0}, {0, 10, 0}, {0, -1, 0}, {0, 0, 13}, {0, 0, -1}, {127, 127, 127}, {-128, 0, 0}};
        for (int[] three : notSo) {
            anew();
            bytes(0, three[0], three[1], three[2], 1, 1, 1);
            is("the first is not so", x.places(0, 0, 2), 0);
            bytes(0, 30, 9, 12, three[0], three[1], three[2], 1, 1, 1);
            is("the second is not so", x.places(0, 0, 3), 1);
            is("one came", x.count(0), 1);
            is("with its KERB", x.of(0, KERB), 9);
        }
        anew();
        x.row(0, 0, 60);
        for (int i = 0; i < 5; i++) x.place(1, 1);
        is("seven till FULL", x.places(0, 0, 12), 7);
        is("FULL", x.places(0, 0, 1), 0);
        is("twelve", x.count(0), 12);
        anew();
        x.row(0, 0, 36);
        is("twelve at once", x.places(0, 0, 12), 12);
    }

    private void placesFromOn() {
        sentence("PLACES FROM A ROW on a SHELF, from place i on, n (1 .. 12) of them: how many came.");
        anew();
        bytes(5, 1, 2, 3, 4, 5, 6, 7);
        is("n 0", x.places(5, 0, 0), BAD);
        is("n 13", x.places(5, 0, 13), BAD);
        for (int n : WILD) is("n far out", x.places(5, 0, n), BAD);
        is("from 1", x.places(5, 1, 1), 1);
        is("its KERB", x.of(0, KERB), 3);
        is("the last three", x.places(5, 4, 12), 1);
        is("its GUST", x.of(1, GUST), 5);
        is("its KERB", x.of(1, KERB), 6);
        is("its PEOPLE", x.of(1, PEOPLE), 7);
        is("two left", x.places(5, 5, 1), 0);
        is("one left", x.places(5, 6, 1), 0);
        is("at the end", x.places(5, 7, 1), 0);
        is("behind the end", x.places(5, 8, 1), 0);
        is("behind the longest", x.places(5, 60, 12), 0);
        for (int i = -1; i >= -4; i--) is("ahead of the row", x.places(5, i, 12), 0);
        for (int i : WILD) is("far out", x.places(5, i, 12), 0);
        is("two came in all", x.count(0), 2);
    }

    private void placesRefused() {
        sentence("BAD, -12 (no ROW of bytes; a SHELF that holds nothing is missing).");
        anew();
        x.body(0);
        is("nothing", x.places(0, 0, 12), 0);
        is("nothing, from anywhere", x.places(0, -1, 1), 0);
        is("SHELF 6", x.places(6, 0, 1), BAD);
        is("SHELF -1", x.places(-1, 0, 1), BAD);
        for (int shelf : WILD) is("SHELF far out", x.places(shelf, 0, 1), BAD);
        is("nothing, n 0", x.places(0, 0, 0), BAD);
        for (int sort = 1; sort <= 4; sort++) {
            x.row(0, sort, 9);
            is("a ROW of " + sort, x.places(0, 0, 1), OTHER);
            is("from behind its end", x.places(0, 9, 1), OTHER);
            is("from ahead of it", x.places(0, -1, 1), OTHER);
            is("BAD is named first", x.places(0, 0, 13), BAD);
        }
        x.keep(0, 0);
        is("a PACE", x.places(0, 0, 1), OTHER);
        x.keep(0, -1);
        is("nothing again", x.places(0, 0, 1), 0);
        x.row(0, 0, 3);
        is("bytes", x.places(0, 0, 1), 1);
    }

    private void mendAnswers() {
        sentence("GUST (what 0), CALM (1), EVERY (2), LASTS (3), KERB (4), PEOPLE (5), NARROW (6) of a PLACE, MEN (7), STRENGTH (8), SCRATCH (9), PANE (10; number 0 for these) becomes v: what it was.");
        int[] first = {5, 0, 10, 2, 0, 7, 3, 2, 99, 0, 400};
        for (int what = 0; what <= 10; what++) {
            anew();
            for (int i = 0; i < 12; i++) x.place(5, 7);
            int number = what < 7 ? 11 : 0;
            is("what it was", x.mend(number, what, 1), first[what]);
            is("it became that", x.mend(number, what, 2), 1);
            is("the same again", x.mend(number, what, 2), 2);
            for (int other = 0; other <= 10; other++) {
                is(what + " leaves " + other, x.of(other < 7 ? 11 : 0, other), other == what ? 2 : first[other]);
                if (other < 7) is("PLACE 10 stays", x.of(10, other), first[other]);
            }
        }
    }

    private void mendRefused() {
        sentence("PANE (10; number 0 for these) becomes v: what it was. BAD.");
        anew();
        for (int what = 0; what < 7; what++) is("no PLACE 0", x.mend(0, what, 1), BAD);
        for (int what = 7; what <= 10; what++) is("wants no PLACE", x.mend(0, what, 1) >= 0 ? 1 : 0, 1);
        x.place(1, 1);
        x.place(1, 1);
        for (int what = 0; what <= 10; what++) {
            is("number -1", x.mend(-1, what, 2), BAD);
            is("number 2", x.mend(2, what, 2), BAD);
            is("number 12", x.mend(12, what, 2), BAD);
            is("number 1", x.mend(1, what, 2), what < 7 ? new int[] {1, 0, 10, 2, 0, 1, 3}[what] : BAD);
            for (int number : WILD) is("number far out", x.mend(number, what, 2), BAD);
        }
        is("what -1", x.mend(0, -1, 1), BAD);
        is("what 11", x.mend(0, 11, 1), BAD);
        for (int what : WILD) is("what far out", x.mend(0, what, 1), BAD);
    }

    private void ofAnswers() {
        sentence("As of mend() (0 to 10). BAD.");
        anew();
        for (int what = 0; what < 7; what++) is("no PLACE 0", x.of(0, what), BAD);
        int[] once = {2, 99, 0, 400};
        for (int what = 7; what <= 10; what++) is("wants no PLACE", x.of(0, what), once[what - 7]);
        x.place(4, 5);
        x.place(6, 7);
        int[] second = {6, 0, 10, 2, 0, 7, 3};
        for (int what = 0; what <= 10; what++) {
            is("number -1", x.of(-1, what), BAD);
            is("number 1", x.of(1, what), what < 7 ? second[what] : BAD);
            is("number 2", x.of(2, what), BAD);
            for (int number : WILD) is("number far out", x.of(number, what), BAD);
        }
        is("what -1", x.of(0, -1), BAD);
        is("what 11", x.of(0, 11), BAD);
        for (int what : WILD) is("what far out", x.of(0, what), BAD);
    }

    private void windAnswers() {
        sentence("The WIND of a PLACE in a minute (0 .. 9999). BAD.");
        street(20, 7);
        x.mend(1, CALM, 3);
        is("minute 0", x.wind(1, 0), 7);
        is("minute 9999", x.wind(1, 9999), 3);
        is("minute 9991", x.wind(1, 9991), 7);
        is("minute -1", x.wind(1, -1), BAD);
        is("minute 10000", x.wind(1, 10000), BAD);
        for (int minute : WILD) is("minute far out", x.wind(1, minute), BAD);
        is("PLACE -1", x.wind(-1, 0), BAD);
        is("PLACE 2", x.wind(2, 0), BAD);
        for (int place : WILD) is("PLACE far out", x.wind(place, 0), BAD);
    }
}
