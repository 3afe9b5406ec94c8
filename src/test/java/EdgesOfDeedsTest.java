/** Each sentence on the walk in deed, on changes and images that names an edge: Terms 4, promises 26 to 33. */
public final class EdgesOfDeedsTest extends Edges {
    private static final int[] MOSTS = {30, 30, 60, 60, 9, 12, 3, 6, 999, 99, 999};

    private EdgesOfDeedsTest() {
        super("EdgesOfDeedsTest");
    }

    public static void main(String[] args) {
        EdgesOfDeedsTest test = new EdgesOfDeedsTest();
        test.setOut();
        test.outOnOnePlace();
        test.outRefused();
        test.paceAnswers();
        test.paceCracks();
        test.paceRefused();
        test.restAnswers();
        test.restRefused();
        test.arrivedIsOver();
        test.leastLeft();
        test.noneLeft();
        test.ledAnswers();
        test.numbersAsTheyAre();
        test.changes();
        test.sameNumber();
        test.latestFirst();
        test.doneAgain();
        test.fortyAtMost();
        test.deedsAreNone();
        test.undoRedoAnswers();
        test.imageOfAWalk();
        test.imageOfNoWalk();
        test.backRefused();
        test.due.end();
    }

    private void setOut() {
        sentence("SET OUT in a minute (0 .. 999): 1; it CRACKS at once: 0.");
        street(20, 20);
        is("minute 0", x.out(0, 0), 1);
        led(0, 0, 0, 0, VOID, 0, 5);
        x.pace(0);
        is("minute 2 is calm", x.out(2, 0), 1);
        led(1, 0, 1, 0, 89, 0, 0);
        x.pace(3);
        is("minute 999 is calm", x.out(999, 3), 1);
        is("1000 is not", x.pace(3), 1);
        led(3, 0, 3, 0, 69, NOT, 0);
        strength(29);
        is("it CRACKS at once", x.out(0, 3), 0);
        led(3, 1, 3, 0, 69, NOT, 0);
        strength(30);
        is("it does not", x.out(0, 3), 1);
        led(3, 1, 3, 0, 69, 0, 30);
    }

    private void outOnOnePlace() {
        sentence("SET OUT in a minute, HELD as h (of one PLACE alone it has ARRIVED)");
        street(20);
        is("one PLACE alone", x.out(0, 3), 1);
        led(1, 0, 0, 0, 69, NOT, 0);
        is("it is over", x.pace(0), STATE);
        is("it is over for a rest", x.rest(0), STATE);
        strength(29);
        is("one PLACE, and it CRACKS", x.out(0, 3), 0);
        led(1, 1, 0, 0, 69, NOT, 0);
        x.place(0, 0);
        is("of two it has not", x.out(5, 3), 1);
        led(1, 1, 0, 0, 69, 0, 0);
    }

    private void outRefused() {
        sentence("BAD; STATE: a walk is on, or no PLACES; NOT: it does not pass there, HELD so.");
        anew();
        is("no PLACES", x.out(0, 0), STATE);
        is("BAD is named first: h", x.out(0, 4), BAD);
        is("BAD is named first: minute", x.out(1000, 0), BAD);
        x.place(0, 0);
        x.place(0, 0);
        for (int minute : new int[] {-1, 1000, Integer.MIN_VALUE, Integer.MAX_VALUE}) is("minute", x.out(minute, 0), BAD);
        for (int h : new int[] {-1, 4, Integer.MIN_VALUE, Integer.MAX_VALUE}) is("h", x.out(0, h), BAD);
        for (int narrow = 0; narrow < 3; narrow++) {
            x.mend(0, NARROW, narrow);
            is("too NARROW", x.out(0, narrow + 1), NOT);
            is("flat, too", x.out(0, 3), NOT);
        }
        led(0, 0, 0, 0, VOID, NOT, 0);
        x.mend(1, NARROW, 0);
        is("the next may be narrower", x.out(0, 2), 1);
        is("a walk is on", x.out(0, 2), STATE);
        is("STATE ahead of NOT", x.out(0, 3), STATE);
        is("BAD ahead of STATE", x.out(0, 4), BAD);
        is("BAD ahead of STATE, too", x.out(-1, 0), BAD);
        led(0, 0, 0, 0, VOID, 0, 0);
    }

    private void paceAnswers() {
        sentence("PACE, HELD as h: 1; it CRACKS: 0 (that walk is over)");
        windyStreet(20, 20, 20);
        x.out(0, 0);
        is("PLACE 1", x.pace(0), 1);
        led(0, 0, 1, 0, VOID, 1, 10);
        is("PLACE 2", x.pace(1), 1);
        led(1, 0, 2, 0, 99 - 21, NOT, 0);
        street(20, 20, 20);
        x.out(9, 1);
        is("9 is calm", x.led(6), 0);
        x.pace(1);
        is("10 is gusty", x.led(6), 10);
        x.pace(1);
        is("11 is gusty", x.led(4), 79);
    }

    private void paceCracks() {
        sentence("it CRACKS: 0 (that walk is over); REST, HELD as h likewise");
        windyStreet(20, 20, 20);
        strength(35);
        x.out(0, 0);
        is("5 and 30 and a turn", x.pace(3), 0);
        led(0, 1, 1, 0, VOID, NOT, 0);
        is("that walk is over", x.pace(0), STATE);
        is("for a rest, too", x.rest(0), STATE);
        is("another", x.out(0, 0), 1);
        is("a rest CRACKS likewise", x.rest(3), 0);
        led(0, 2, 1, 1, VOID, NOT, 0);
        is("that walk is over, too", x.rest(0), STATE);
        x.out(0, 0);
        x.pace(0);
        is("into the shop, and it CRACKS", x.pace(3), 0);
        led(0, 3, 3, 1, VOID, NOT, 0);
        strength(36);
        x.out(0, 0);
        is("just not", x.pace(3), 1);
        led(0, 3, 4, 1, VOID, 1, 36);
        is("a rest more is", x.rest(3), 0);
        led(0, 4, 4, 2, VOID, NOT, 0);
    }

    private void paceRefused() {
        sentence("PACE: 1, 0. BAD; STATE: no walk is on; NOT: it does not pass there, HELD so.");
        anew();
        is("no walk, no PLACES", x.pace(0), STATE);
        x.place(0, 0);
        x.place(0, 0);
        x.mend(1, NARROW, 1);
        is("no walk", x.pace(0), STATE);
        is("STATE ahead of NOT", x.pace(3), STATE);
        for (int h : new int[] {-1, 4, Integer.MIN_VALUE, Integer.MAX_VALUE}) is("BAD ahead of STATE", x.pace(h), BAD);
        x.out(0, 3);
        for (int h : new int[] {-1, 4, Integer.MIN_VALUE, Integer.MAX_VALUE}) is("BAD", x.pace(h), BAD);
        is("too NARROW there", x.pace(2), NOT);
        is("too NARROW for flat", x.pace(3), NOT);
        led(0, 0, 0, 0, VOID, 0, 0);
        x.mend(0, NARROW, 0);
        is("it is there that counts", x.pace(1), 1);
        led(1, 0, 1, 0, 98, NOT, 0);
    }

    private void restAnswers() {
        sentence("REST: 1, 0. BAD; STATE; NOT likewise.");
        street(20, 20);
        x.mend(0, CALM, 4);
        x.out(0, 0);
        is("minute 1 is gusty", x.rest(0), 1);
        led(0, 0, 0, 1, VOID, 0, 10);
        is("minute 2 is not", x.rest(1), 1);
        led(0, 0, 0, 2, VOID, 0, 10 + 2 + 1);
        strength(12);
        is("it CRACKS", x.rest(1), 0);
        led(0, 1, 0, 3, VOID, NOT, 0);
        x.mend(0, CALM, 0);
        strength(10);
        x.out(1, 1);
        is("eased, it does not", x.rest(1), 1);
        is("10 less 3", x.led(6), 7);
        strength(4);
        is("too much ahead of it, not behind", x.rest(1), 1);
        is("7 less 3", x.led(6), 4);
        strength(0);
        is("1 more than nothing", x.rest(1), 0);
    }

    private void restRefused() {
        sentence("REST: 1, 0. BAD; STATE; NOT likewise.");
        anew();
        is("no walk, no PLACES", x.rest(0), STATE);
        x.place(0, 0);
        x.place(0, 0);
        x.mend(0, NARROW, 1);
        x.mend(1, NARROW, 0);
        is("no walk", x.rest(0), STATE);
        is("STATE ahead of NOT", x.rest(3), STATE);
        for (int h : new int[] {-1, 4, Integer.MIN_VALUE, Integer.MAX_VALUE}) is("BAD ahead of STATE", x.rest(h), BAD);
        x.out(0, 0);
        for (int h : new int[] {-1, 4, Integer.MIN_VALUE, Integer.MAX_VALUE}) is("BAD", x.rest(h), BAD);
        is("too NARROW here", x.rest(2), NOT);
        led(0, 0, 0, 0, VOID, 0, 0);
        is("as NARROW as it is HELD", x.rest(1), 1);
        led(0, 0, 0, 1, VOID, 0, 0);
        x.mend(0, NARROW, 0);
        is("it became narrower", x.rest(1), NOT);
        led(0, 0, 0, 1, VOID, 0, 0);
    }

    private void arrivedIsOver() {
        sentence("ARRIVED behind the PACE into the shop: the walk is over");
        street(0, 0, 0);
        x.out(0, 0);
        x.pace(0);
        x.rest(0);
        is("a REST does not arrive", x.led(0), 0);
        x.place(0, 0);
        x.pace(0);
        is("the shop is farther now", x.led(5), 2);
        is("not there yet", x.led(0), 0);
        x.pace(0);
        led(1, 0, 3, 1, 99, NOT, 0);
        is("over for a PACE", x.pace(0), STATE);
        is("over for a REST", x.rest(0), STATE);
        is("another may SET OUT", x.out(0, 0), 1);
        street(0, 0, 0, 0, 0, 0, 0, 0, 0, 0, 0, 0);
        x.out(0, 0);
        for (int p = 1; p <= 11; p++) {
            is("PLACE ahead of " + p, x.led(5), p - 1);
            is("PACE into " + p, x.pace(0), 1);
        }
        led(1, 0, 11, 0, 99, NOT, 0);
    }

    private void arriveWith(int strength, int scratch) {
        x.mend(0, STRENGTH, strength);
        x.mend(0, SCRATCH, scratch);
        x.out(0, 0);
        x.pace(0);
    }

    private void leastLeft() {
        sentence("the least that was left (STRENGTH less 5 SCRATCH less ALL STRAIN of arrived ones; VOID: none)");
        windyStreet(20, 20);
        is("none", x.led(4), VOID);
        arriveWith(9, 0);
        is("a cracked one is none", x.led(4), VOID);
        arriveWith(999, 0);
        is("989", x.led(4), 989);
        arriveWith(999, 1);
        is("984", x.led(4), 984);
        arriveWith(999, 0);
        is("the least is kept", x.led(4), 984);
        arriveWith(515, 99);
        is("20 less 10", x.led(4), 10);
        arriveWith(21, 2);
        is("1 left", x.led(4), 1);
        arriveWith(20, 2);
        is("nothing left", x.led(4), 0);
        arriveWith(19, 2);
        is("that one CRACKED", x.led(4), 0);
        arriveWith(999, 0);
        is("0 is kept", x.led(4), 0);
        led(7, 2, 9, 0, 0, NOT, 0);
    }

    private void noneLeft() {
        sentence("the PLACE (NOT: no walk is on)");
        street(20, 20);
        is("at first", x.led(5), NOT);
        x.out(2, 0);
        is("the van", x.led(5), 0);
        x.rest(0);
        is("the van still", x.led(5), 0);
        x.pace(0);
        is("arrived", x.led(5), NOT);
        strength(0);
        x.out(0, 0);
        is("cracked", x.led(5), NOT);
    }

    private void ledAnswers() {
        sentence("LED: arrived (what 0), CRACKED (1), PACES (2), RESTS (3), the least left (4; VOID), the PLACE (5; NOT), ALL STRAIN (6; 0: no walk is on). BAD.");
        anew();
        led(0, 0, 0, 0, VOID, NOT, 0);
        is("what -1", x.led(-1), BAD);
        is("what 7", x.led(7), BAD);
        for (int what : WILD) is("what far out", x.led(what), BAD);
        windyStreet(20, 20, 20, 20);
        x.out(0, 0);
        x.pace(0);
        x.pace(0);
        x.pace(0);
        x.out(0, 0);
        x.rest(0);
        x.rest(0);
        x.pace(0);
        x.pace(0);
        led(1, 0, 5, 2, 79, 2, 25);
        strength(29);
        x.pace(0);
        led(1, 1, 6, 2, 79, NOT, 0);
    }

    private void numbersAsTheyAre() {
        sentence("the PLACE (5; NOT), ALL STRAIN (6; 0: no walk is on)");
        windyStreet(20, 20, 20);
        x.out(0, 1);
        is("MEN 2", x.led(6), 10);
        x.mend(0, MEN, 4);
        is("what was borne stays", x.led(6), 10);
        x.rest(1);
        is("MEN 4", x.led(6), 15);
        x.mend(0, GUST, 12);
        x.rest(1);
        is("a mended GUST", x.led(6), 18);
        law("7");
        x.pace(1);
        is("a LAW told meanwhile", x.led(6), 25);
        x.undo();
        x.undo();
        is("numbers undone", x.led(6), 25);
        x.pace(1);
        is("arrived", x.led(4), 99 - 32);
    }

    // ---- changes

    private void changes() {
        sentence("CHANGES (all numbers of PLACES; MEN, STRENGTH, SCRATCH, PANE; telling the same number is none) can be UNDONE");
        for (int what = 0; what <= 10; what++) {
            street(7, 7);
            int number = what < 7 ? 1 : 0, was = x.of(number, what);
            int v = was == MOSTS[what] ? was - 1 : MOSTS[what];
            x.mend(number, what, v);
            is("a change of " + what, x.count(2), 1);
            is("UNDONE", x.undo(), 0);
            is("as it was", x.of(number, what), was);
            is("none may be UNDONE", x.count(2), 0);
            is("DONE AGAIN", x.redo(), 0);
            is("as it became", x.of(number, what), v);
            is("one may be UNDONE", x.count(2), 1);
            if (what < 7) is("of that PLACE alone", x.of(0, what), what == 0 ? 7 : new int[] {0, 0, 10, 2, 0, 0, 3}[what]);
        }
        street(1, 1);
        bytes(0, 1, 1, 1);
        x.places(0, 0, 1);
        law("w");
        x.body(0);
        is("nothing else is one", x.count(2), 0);
        is("nothing else is UNDONE", x.undo(), STATE);
    }

    private void sameNumber() {
        sentence("telling the same number is none");
        street(7);
        for (int what = 0; what <= 10; what++) {
            int was = x.of(0, what);
            is("the same", x.mend(0, what, was), was);
            is("is none", x.count(2), 0);
        }
        x.mend(0, GUST, 8);
        x.mend(0, GUST, 8);
        is("8 again is none", x.count(2), 1);
        x.mend(0, GUST, 7);
        is("7 again is one: it was 8", x.count(2), 2);
        x.undo();
        x.mend(0, GUST, 8);
        is("none, so 7 may be DONE AGAIN", x.redo(), 0);
        is("7", x.of(0, GUST), 7);
        is("BAD is none", x.mend(0, GUST, 31), BAD);
        is("two still", x.count(2), 2);
    }

    private void latestFirst() {
        sentence("can be UNDONE, the latest first");
        street(1, 2);
        x.mend(0, GUST, 10);
        x.mend(1, GUST, 20);
        x.mend(0, GUST, 11);
        x.mend(0, MEN, 6);
        x.mend(0, GUST, 12);
        int[][] wants = {{11, 20, 6}, {11, 20, 2}, {10, 20, 2}, {10, 2, 2}, {1, 2, 2}};
        for (int i = 0; i < 5; i++) {
            is("so many may still be", x.undo(), 4 - i);
            is("count, too", x.count(2), 4 - i);
            numbers(wants[i]);
        }
        is("none", x.undo(), STATE);
        numbers(wants[4]);
        for (int i = 3; i >= 0; i--) {
            is("DONE AGAIN, so many may still be", x.redo(), i + 1);
            numbers(wants[i]);
        }
        is("the last", x.redo(), 0);
        numbers(12, 20, 6);
        is("none", x.redo(), STATE);
        numbers(12, 20, 6);
    }

    private void numbers(int... want) {
        is("GUST of 0", x.of(0, GUST), want[0]);
        is("GUST of 1", x.of(1, GUST), want[1]);
        is("MEN", x.of(0, MEN), want[2]);
    }

    private void doneAgain() {
        sentence("and DONE AGAIN (as long as no other came behind)");
        street(1);
        for (int v = 2; v <= 6; v++) x.mend(0, GUST, v);
        x.undo();
        x.undo();
        x.undo();
        x.mend(0, KERB, 5);
        is("another came behind", x.redo(), STATE);
        is("GUST as it was UNDONE to", x.of(0, GUST), 3);
        is("two and the other", x.count(2), 3);
        is("the other is UNDONE", x.undo(), 2);
        is("KERB", x.of(0, KERB), 0);
        is("and DONE AGAIN", x.redo(), 0);
        is("none more", x.redo(), STATE);
        x.undo();
        x.undo();
        is("two may be DONE AGAIN", x.redo(), 1);
        x.place(3, 3);
        x.mend(0, KERB, 10);
        x.mend(0, GUST, x.of(0, GUST));
        x.out(5, 0);
        x.image();
        x.back();
        law("w");
        is("none of these is another", x.redo(), 0);
        is("KERB again", x.of(0, KERB), 5);
    }

    private void fortyAtMost() {
        sentence("40 at most are kept");
        street(0);
        for (int i = 1; i <= 40; i++) {
            x.mend(0, STRENGTH, 100 + i);
            is("kept", x.count(2), i);
        }
        for (int i = 1; i <= 3; i++) {
            x.mend(0, PANE, i);
            is("40 still", x.count(2), 40);
        }
        for (int i = 39; i >= 0; i--) {
            is("UNDONE", x.undo(), i);
            is("to PANE", x.of(0, PANE), i >= 39 ? 2 : i == 38 ? 1 : 400);
            is("to STRENGTH", x.of(0, STRENGTH), i >= 37 ? 140 : 103 + i);
        }
        is("the first three are lost", x.undo(), STATE);
        is("so it stays", x.of(0, STRENGTH), 103);
        for (int i = 39; i >= 0; i--) {
            is("DONE AGAIN", x.redo(), i);
            is("to STRENGTH again", x.of(0, STRENGTH), i >= 3 ? 143 - i : 140);
            is("to PANE again", x.of(0, PANE), i >= 3 ? 400 : 3 - i);
        }
        is("no more", x.redo(), STATE);
        x.undo();
        x.mend(0, MEN, 6);
        is("39 and the other", x.count(2), 40);
        is("the third PANE is lost", x.redo(), STATE);
        x.mend(0, MEN, 5);
        for (int i = 39; i >= 0; i--) x.undo();
        is("the first of those is lost, too", x.of(0, STRENGTH), 104);
    }

    private void deedsAreNone() {
        sentence("40 at most are kept; deeds are none.");
        street(0, 0);
        x.mend(0, KERB, 1);
        x.out(0, 0);
        x.rest(0);
        x.pace(0);
        is("one", x.count(2), 1);
        x.image();
        x.out(0, 0);
        is("UNDONE", x.undo(), 0);
        led(1, 0, 1, 1, x.led(4), 0, 1);
        is("KERB", x.of(0, KERB), 0);
        is("DONE AGAIN", x.redo(), 0);
        led(1, 0, 1, 1, x.led(4), 0, 1);
        x.back();
        is("nor are images", x.count(2), 1);
    }

    private void undoRedoAnswers() {
        sentence("UNDONE: how many may still be. STATE: none.");
        street(0);
        is("none", x.undo(), STATE);
        x.mend(0, KERB, 1);
        x.mend(0, KERB, 2);
        is("one", x.undo(), 1);
        is("none still", x.undo(), 0);
        is("STATE", x.undo(), STATE);
        is("KERB", x.of(0, KERB), 0);
        sentence("DONE AGAIN: how many may still be. STATE: none.");
        is("one", x.redo(), 1);
        is("none still", x.redo(), 0);
        is("STATE", x.redo(), STATE);
        is("KERB", x.of(0, KERB), 2);
        anew();
        is("of a new object", x.redo(), STATE);
        x.mend(0, MEN, 1);
        is("nothing was UNDONE", x.redo(), STATE);
    }

    // ---- images

    private void imageOfAWalk() {
        sentence("AN IMAGE keeps the walk that is on, what LED tells.");
        street(20, 20, 20, 20);
        x.out(2, 0);
        x.pace(0);
        x.pace(0);
        x.pace(0);
        strength(0);
        x.out(0, 0);
        strength(99);
        x.out(6, 0);
        x.rest(1);
        x.pace(2);
        led(1, 1, 4, 1, 99, 1, 1);
        is("walks that arrived", x.image(), 1);
        x.mend(3, GUST, 30);
        x.rest(2);
        x.pace(0);
        x.pace(0);
        // Eased to 0 in 9; 20 / 4 and a turn in 10, 30 / 4 in 11.
        led(2, 1, 6, 2, 99 - 13, NOT, 0);
        is("laid back", x.back(), 1);
        led(1, 1, 4, 1, 99, 1, 1);
        is("GUST stays mended", x.of(3, GUST), 30);
        is("HELD as it was, and minute 9 is calm", x.pace(2), 1);
        is("no turn", x.led(6), 1);
        is("minute 10 is gusty", x.pace(2), 1);
        led(2, 1, 6, 1, 99 - 31, NOT, 0);
        is("laid back once more", x.back(), 1);
        led(1, 1, 4, 1, 99, 1, 1);
        x.rest(1);
        is("another IMAGE", x.image(), 1);
        x.pace(1);
        x.back();
        led(1, 1, 4, 2, 99, 1, 0);
        sentence("AN IMAGE is kept: walks that arrived.");
        x.pace(1);
        x.pace(1);
        is("two arrived", x.image(), 2);
        is("two, laid back", x.back(), 2);
    }

    private void imageOfNoWalk() {
        sentence("AN IMAGE is kept: walks that arrived.");
        street(20, 20);
        is("none arrived", x.image(), 0);
        x.out(0, 0);
        is("it is on", x.led(5), 0);
        is("laid back", x.back(), 0);
        led(0, 0, 0, 0, VOID, NOT, 0);
        is("none is on", x.pace(0), STATE);
        is("one may SET OUT", x.out(0, 0), 1);
        x.pace(0);
        is("one arrived", x.image(), 1);
        strength(0);
        x.out(0, 0);
        led(1, 1, 1, 0, 89, NOT, 0);
        is("laid back", x.back(), 1);
        led(1, 0, 1, 0, 89, NOT, 0);
    }

    private void backRefused() {
        sentence("It is laid back: walks that arrived. STATE: there is none.");
        street(0);
        is("there is none", x.back(), STATE);
        x.out(0, 0);
        is("none still", x.back(), STATE);
        led(1, 0, 0, 0, 99, NOT, 0);
        x.image();
        is("now there is", x.back(), 1);
        is("and it stays", x.back(), 1);
    }
}
