import java.util.ArrayList;
import java.util.List;

/**
 * "Answers, of several the one named first ... What is answered so changes nothing": every refused call is made of one
 * of two like objects, and both must tell the same behind it.
 */
public final class RefusedTest extends Edges {
    private static final int MIN = Integer.MIN_VALUE, MAX = Integer.MAX_VALUE;

    private interface Call {
        long of(PaneAcross pane);
    }

    /** An object in a state, made anew as often as it is wanted. */
    private interface Made {
        PaneAcross anew();
    }

    private Made made;
    private List<Long> untouched;

    private RefusedTest() {
        super("RefusedTest");
    }

    public static void main(String[] args) {
        RefusedTest test = new RefusedTest();
        test.ofANewObject();
        test.placesAndMen();
        test.walksInThought();
        test.people();
        test.inDeed();
        test.shelves();
        test.whenFull();
        test.questions();
        test.due.end();
    }

    private void state(Made state) {
        made = state;
        untouched = allThatIsTold(made.anew());
    }

    private void refused(String what, long want, Call call) {
        PaneAcross pane = made.anew();
        is(what, call.of(pane), want);
        List<Long> told = allThatIsTold(pane);
        is(what + " leaves so much to tell", told.size(), untouched.size());
        for (int i = 0; i < told.size() && i < untouched.size(); i++) is(what + " changes " + i, told.get(i), untouched.get(i));
    }

    /** All that an object tells: first what asking does not change, then what is kept to be laid back or done again. */
    private static List<Long> allThatIsTold(PaneAcross pane) {
        List<Long> told = new ArrayList<>();
        for (int what = 0; what < 5; what++) told.add((long) pane.count(what));
        for (int p = 0; p < pane.count(0); p++) for (int what = 0; what < 7; what++) told.add((long) pane.of(p, what));
        for (int what = 7; what < 11; what++) told.add((long) pane.of(0, what));
        for (int what = 0; what < 7; what++) told.add((long) pane.led(what));
        for (int i = 0; i < 15; i++) told.add((long) pane.trace(i));
        for (int shelf = 0; shelf < 6; shelf++) {
            told.add((long) pane.taken(shelf, 0));
            for (int i = 0; pane.element(shelf, i) != LONG_BAD; i++) told.add(pane.element(shelf, i));
        }
        for (int ph = 0; ph < 30; ph += 5) told.add((long) pane.strain(ph / 10 * 10 + ph % 2, 3));
        told.add((long) pane.pace(0));
        for (int what = 0; what < 7; what++) told.add((long) pane.led(what));
        told.add((long) pane.back());
        for (int what = 0; what < 7; what++) told.add((long) pane.led(what));
        told.add((long) pane.redo());
        told.add((long) pane.undo());
        told.add((long) pane.undo());
        for (int what = 0; what < 3; what++) told.add((long) pane.of(what, KERB));
        told.add((long) pane.law());
        for (int ph = 0; ph < 30; ph += 5) told.add((long) pane.strain(ph / 10 * 10 + ph % 2, 3));
        return told;
    }

    /** Three PLACES, a walk that is on, an image, a law and more of a text, changes both ways, a trace, all sorts of shelves. */
    private static PaneAcross busy() {
        PaneAcross pane = new PaneAcross();
        for (int gust = 8; gust <= 24; gust += 8) pane.place(gust, gust / 8);
        feed(pane, "w+h+k");
        pane.law();
        feed(pane, "w*2;h");
        for (int kind = 3; kind <= 7; kind += 2) pane.body(kind);
        pane.act(2, 3, 5);
        pane.mend(0, NARROW, 2);
        pane.mend(1, NARROW, 1);
        pane.mend(2, NARROW, 2);
        pane.mend(0, SCRATCH, 1);
        pane.mend(1, KERB, 4);
        pane.mend(1, KERB, 5);
        pane.undo();
        pane.out(3, 0);
        pane.image();
        pane.rest(1);
        pane.pace(1);
        for (int sort = 0; sort < 3; sort++) {
            pane.row(sort, sort, 4);
            for (int i = 0; i < 4; i++) pane.put(sort, i, sort + i);
        }
        pane.row(3, 4, 2);
        pane.put(3, 1, 1);
        pane.keep(4, 1);
        return pane;
    }

    private static PaneAcross full() {
        PaneAcross pane = new PaneAcross();
        for (int i = 0; i < 12; i++) pane.place(i, i);
        for (int i = 0; i < 120; i++) pane.feed(i % 2 == 0 ? 'w' : '+');
        for (int i = 0; i < 50; i++) pane.body(i % 8);
        pane.row(0, 0, 60);
        pane.out(0, 0);
        return pane;
    }

    private static void feed(PaneAcross pane, String text) {
        for (int i = 0; i < text.length(); i++) pane.feed(text.charAt(i));
    }

    private void ofANewObject() {
        sentence("What is answered so changes nothing.");
        state(PaneAcross::new);
        refused("walk", NOTHING, p -> p.walk(0, 0, 0));
        refused("start", NOTHING, p -> p.start(0, 0));
        refused("hold", STATE, p -> p.hold(0, 0));
        refused("soonest", STATE, p -> p.soonest(0));
        refused("safest", STATE, p -> p.safest(0, 0));
        refused("free", STATE, p -> p.free(0));
        refused("watch", STATE, p -> p.watch(0));
        refused("earlier", STATE, p -> p.earlier(0, 0));
        refused("drawn", STATE, p -> p.drawn(0, 10, 0));
        refused("out", STATE, p -> p.out(0, 0));
        refused("pace", STATE, p -> p.pace(0));
        refused("rest", STATE, p -> p.rest(0));
        refused("back", STATE, p -> p.back());
        refused("undo", STATE, p -> p.undo());
        refused("redo", STATE, p -> p.redo());
        refused("act", 0, p -> p.act(0, 0, 0));
        refused("a text that ends too early", -100, p -> p.law());
        refused("mend a PLACE", BAD, p -> p.mend(0, GUST, 1));
        refused("places", 0, p -> p.places(0, 0, 1));
        state(() -> {
            PaneAcross pane = new PaneAcross();
            pane.row(0, 0, 3);
            return pane;
        });
        refused("walk without PLACES", STATE, p -> p.walk(0, 0, 0));
        refused("start without PLACES", STATE, p -> p.start(0, 0));
        refused("menFor without PLACES", STATE, p -> p.menFor(0, 0));
        refused("van without PLACES", STATE, p -> p.van(0, 0));
        refused("windFrom without PLACES", STATE, p -> p.windFrom(0, 0));
        refused("scratchFor without PLACES", STATE, p -> p.scratchFor(0, 0));
        refused("cost without PLACES", STATE, p -> p.cost(0, 0, 0));
        refused("begun without PLACES", STATE, p -> p.begun(0, 0));
        refused("judge without PLACES", STATE, p -> p.judge(0, 0));
        refused("no three is left", 0, p -> p.places(0, 1, 1));
    }

    private void placesAndMen() {
        sentence("What is answered so changes nothing.");
        state(RefusedTest::busy);
        refused("GUST 31", BAD, p -> p.place(31, 0));
        refused("GUST -1", BAD, p -> p.place(-1, 0));
        refused("PEOPLE 13", BAD, p -> p.place(0, 13));
        refused("PEOPLE -1", BAD, p -> p.place(0, -1));
        refused("places: SHELF 6", BAD, p -> p.places(6, 0, 1));
        refused("places: n 0", BAD, p -> p.places(0, 0, 0));
        refused("places: n 13", BAD, p -> p.places(0, 0, 13));
        refused("places: shorts", OTHER, p -> p.places(1, 0, 1));
        refused("places: a PACE", OTHER, p -> p.places(4, 0, 1));
        refused("places: nothing", 0, p -> p.places(5, 0, 1));
        refused("places: ahead", 0, p -> p.places(0, -1, 1));
        refused("places: within a three", 0, p -> p.places(0, 2, 1));
        int[] least = {0, 0, 1, 0, 0, 0, 0, 1, 0, 0, 0}, most = {30, 30, 60, 60, 9, 12, 3, 6, 999, 99, 999};
        for (int what = 0; what <= 10; what++) {
            int w = what;
            refused("mend too little " + w, BAD, p -> p.mend(0, w, least[w] - 1));
            refused("mend too much " + w, BAD, p -> p.mend(0, w, most[w] + 1));
            refused("mend of number 3: " + w, BAD, p -> p.mend(3, w, least[w]));
            refused("mend of number -1: " + w, BAD, p -> p.mend(-1, w, least[w]));
        }
        refused("mend: what -1", BAD, p -> p.mend(0, -1, 1));
        refused("mend: what 11", BAD, p -> p.mend(0, 11, 1));
        refused("feed -1", BAD, p -> p.feed(-1));
        refused("feed 256", BAD, p -> p.feed(256));
    }

    private void walksInThought() {
        sentence("Answers, of several the one named first: BAD (-1): no such number, or it is not as said; NOT (-2): as told; FULL (-3); STATE (-5): as told; -11 to -14.");
        for (int minute : new int[] {-1, 1000, MIN, MAX}) {
            int m = minute;
            for (int shelf = 0; shelf <= 6; shelf++) {
                int s = shelf;
                refused("walk", BAD, p -> p.walk(s, m, 0));
                refused("menFor", BAD, p -> p.menFor(s, m));
                refused("van", BAD, p -> p.van(s, m));
                refused("windFrom", BAD, p -> p.windFrom(s, m));
                refused("scratchFor", BAD, p -> p.scratchFor(s, m));
                refused("cost", LONG_BAD, p -> p.cost(s, m, 0));
            }
            refused("hold", LONG_BAD, p -> p.hold(m, 0));
            refused("soonest", BAD, p -> p.soonest(m));
            refused("safest", BAD, p -> p.safest(m, 0));
            refused("out", BAD, p -> p.out(m, 0));
        }
        for (int shelf = 1; shelf <= 5; shelf++) {
            int s = shelf, want = shelf == 5 ? NOTHING : OTHER;
            refused("walk on SHELF " + s, want, p -> p.walk(s, 0, 0));
            refused("start on SHELF " + s, want, p -> p.start(s, 0));
            refused("menFor on SHELF " + s, want, p -> p.menFor(s, 0));
            refused("van on SHELF " + s, want, p -> p.van(s, 0));
            refused("windFrom on SHELF " + s, want, p -> p.windFrom(s, 0));
            refused("scratchFor on SHELF " + s, want, p -> p.scratchFor(s, 0));
            refused("judge on SHELF " + s, want, p -> p.judge(s, 0));
            refused("cost on SHELF " + s, LONG_BAD, p -> p.cost(s, 0, 0));
            refused("begun on SHELF " + s, LONG_BAD, p -> p.begun(s, 0));
            refused("a wrong what ahead of it", BAD, p -> p.walk(s, 0, 3));
            refused("a wrong what ahead of it, too", BAD, p -> p.start(s, 2));
            refused("a wrong h ahead of it", BAD, p -> p.judge(s, 4));
        }
    }

    private void people() {
        sentence("Long.MIN_VALUE: BAD; STATE: no PLACES, of all walks");
        state(RefusedTest::busy);
        for (int part : new int[] {-1, 2, MIN, MAX}) {
            refused("free", LONG_BAD, p -> p.free(part));
            refused("watch", LONG_BAD, p -> p.watch(part == 2 ? 3 : part));
            refused("earlier", LONG_BAD, p -> p.earlier(0, part));
            refused("cost", LONG_BAD, p -> p.cost(0, 0, part));
        }
        refused("earlier by -1", LONG_BAD, p -> p.earlier(-1, 0));
        refused("earlier by 13", LONG_BAD, p -> p.earlier(13, 0));
        refused("begun, HELD as 4", LONG_BAD, p -> p.begun(0, 4));
        refused("judge, HELD as 4", BAD, p -> p.judge(0, 4));
        refused("judge below 0", BAD, p -> p.judge(0, -1));
        refused("drawn of none", BAD, p -> p.drawn(1, 0, 0));
        refused("drawn of 31", BAD, p -> p.drawn(1, 310, 0));
        refused("drawn, HELD as 4", BAD, p -> p.drawn(1, 14, 0));
        refused("drawn of what 2", BAD, p -> p.drawn(1, 10, 2));
    }

    private void inDeed() {
        sentence("What is answered so changes nothing.");
        state(RefusedTest::busy);
        refused("a walk is on", STATE, p -> p.out(0, 0));
        refused("a walk is on, and too NARROW", STATE, p -> p.out(0, 3));
        refused("out, HELD as 4", BAD, p -> p.out(0, 4));
        for (int h : new int[] {-1, 4, MIN, MAX}) {
            refused("pace", BAD, p -> p.pace(h));
            refused("rest", BAD, p -> p.rest(h));
        }
        refused("too NARROW there", NOT, p -> p.pace(3));
        refused("too NARROW here", NOT, p -> p.rest(2));
        refused("led -1", BAD, p -> p.led(-1));
        refused("led 7", BAD, p -> p.led(7));
        state(() -> {
            PaneAcross pane = busy();
            pane.pace(1);
            pane.redo();
            return pane;
        });
        refused("no walk to pace", STATE, p -> p.pace(0));
        refused("no walk to rest", STATE, p -> p.rest(0));
        refused("no walk, and too NARROW", STATE, p -> p.pace(3));
        refused("too NARROW to set out", NOT, p -> p.out(0, 3));
        refused("nothing to do again", STATE, p -> p.redo());
        state(() -> {
            PaneAcross pane = busy();
            for (int i = 0; i < 5; i++) pane.undo();
            return pane;
        });
        refused("nothing to undo", STATE, p -> p.undo());
    }

    private void shelves() {
        sentence("The host's REFUSALS: -11 nothing is there where something is wanted; -12 it is of another kind; -13 a place that is not there; -14 a size below 0.");
        state(RefusedTest::busy);
        refused("body 8", BAD, p -> p.body(8));
        refused("body -1", BAD, p -> p.body(-1));
        refused("trace -1", BAD, p -> p.trace(-1));
        refused("keep 3", BAD, p -> p.keep(4, 3));
        refused("keep -2", BAD, p -> p.keep(0, -2));
        refused("keep on SHELF 6", BAD, p -> p.keep(6, 0));
        for (int shelf = 0; shelf < 6; shelf++) {
            int s = shelf;
            refused("row of sort 5", BAD, p -> p.row(s, 5, 1));
            refused("row of 61", BAD, p -> p.row(s, 0, 61));
            refused("row of -1", BELOW_0, p -> p.row(s, 0, -1));
            refused("taken as 8", BAD, p -> p.taken(s, 8));
            int put = s == 5 ? NOTHING : s == 4 ? OTHER : NO_PLACE;
            refused("put at -1", put, p -> p.put(s, -1, 9));
            refused("put at 4", put, p -> p.put(s, 4, 9));
            refused("element -1", LONG_BAD, p -> p.element(s, -1));
            refused("element 4", LONG_BAD, p -> p.element(s, 4));
            refused("shift too many", put, p -> p.shift(s, 0, s, 0, 5));
            refused("shift -1", put, p -> p.shift(s, 0, s, 1, -1));
            refused("shift from -1", put, p -> p.shift(s, -1, s, 0, 1));
            refused("shift to -1", put, p -> p.shift(s, 0, s, -1, 1));
            refused("shift from nothing", NOTHING, p -> p.shift(5, 0, s, 0, 1));
            refused("shift to nothing", NOTHING, p -> p.shift(s, 0, 5, 0, 1));
            refused("shift to a PACE", s == 5 ? NOTHING : OTHER, p -> p.shift(s, 0, 4, 0, 1));
            refused("shift to another sort", s == 5 ? NOTHING : OTHER, p -> p.shift(s, 0, s == 0 ? 1 : 0, 0, 1));
            refused("shift to SHELF 6", BAD, p -> p.shift(s, 0, 6, 0, 1));
        }
        refused("put on SHELF 6", BAD, p -> p.put(6, 0, 1));
        refused("row on SHELF 6", BAD, p -> p.row(6, 0, 1));
        refused("taken from SHELF 6", BAD, p -> p.taken(6, 0));
        refused("taken as another", OTHER, p -> p.taken(4, 1));
    }

    private void whenFull() {
        sentence("FULL (-3); STATE (-5): as told; -11 to -14.");
        state(RefusedTest::full);
        refused("place", FULL, p -> p.place(1, 1));
        refused("place, wrong", BAD, p -> p.place(31, 1));
        refused("places", 0, p -> p.places(0, 0, 12));
        refused("feed", FULL, p -> p.feed('w'));
        refused("feed, wrong", BAD, p -> p.feed(256));
        refused("body", FULL, p -> p.body(0));
        refused("body, wrong", BAD, p -> p.body(8));
        refused("keep 50", BAD, p -> p.keep(0, 50));
        refused("row of 61", BAD, p -> p.row(0, 0, 61));
        refused("put at 60", NO_PLACE, p -> p.put(0, 60, 1));
    }

    /** What is only asked changes nothing, either, whatever is supposed so as to answer it. */
    private void questions() {
        sentence("Nothing is promised beyond the answers and state changes described above");
        state(RefusedTest::busy);
        refused("walk", NOT, p -> p.walk(0, 0, 0));
        refused("start", 2, p -> p.start(0, 0));
        refused("hold", 0, p -> p.hold(0, 0));
        refused("soonest", 2, p -> p.soonest(0));
        // Seven rests in PLACE 0 take 16 down to 0; then the kerb.
        refused("safest", 4, p -> p.safest(0, 60));
        refused("menFor", 1, p -> p.menFor(0, 0));
        refused("van", 0, p -> p.van(0, 0));
        // 8, 22 and 3: 33, and twice x more.
        refused("windFrom", NOT, p -> p.windFrom(0, 0));
        refused("scratchFor", 13, p -> p.scratchFor(0, 0));
        refused("free", 55, p -> p.free(0));
        refused("watch", 2, p -> p.watch(2));
        refused("earlier", 55, p -> p.earlier(1, 0));
        refused("cost", 1025, p -> p.cost(0, 0, 0));
        refused("begun", 0, p -> p.begun(0, 0));
        refused("judge", 0, p -> p.judge(0, 0));
        refused("drawn", 1, p -> p.drawn(1, 200, 0) > 0 ? 1 : 0);
        refused("led", 1, p -> p.led(5));
        refused("wind", 8, p -> p.wind(0, 0));
        refused("trace", 81, p -> p.trace(0));
    }
}
