/** Each promise by itself: ordinary inputs, the edges that the document names, wrong inputs; worked out by hand. */
public final class PromisesTest {
    private static final int BAD = -1, NOT = -2, FULL = -3, STATE = -5, VOID = -2000000000;
    private static final long LONG_BAD = Long.MIN_VALUE;
    private static final int GUST = 0, CALM = 1, EVERY = 2, LASTS = 3, KERB = 4, PEOPLE = 5, NARROW = 6;
    private static final int MEN = 7, STRENGTH = 8, SCRATCH = 9, PANE = 10;

    private final Due due = new Due("PromisesTest");
    private PaneAcross x = new PaneAcross();

    private PromisesTest() {
    }

    public static void main(String[] args) {
        PromisesTest test = new PromisesTest();
        test.newObject();
        test.place();
        test.places();
        test.mendAndOf();
        test.wind();
        test.feedAndLaw();
        test.faults();
        test.worths();
        test.strain();
        test.walk();
        test.start();
        test.hold();
        test.soonest();
        test.safest();
        test.menForVan();
        test.windFromScratchFor();
        test.freeWatchEarlier();
        test.cost();
        test.begunJudge();
        test.drawn();
        test.deeds();
        test.deedsRefused();
        test.restsEase();
        test.imageBack();
        test.undoRedo();
        test.bodies();
        test.acts();
        test.shelves();
        test.shift();
        test.taken();
        test.count();
        test.refusalsInOrder();
        test.due.end();
    }

    /** A new object with a street of such GUSTS, PEOPLE 0. */
    private void street(int... gusts) {
        x = new PaneAcross();
        for (int gust : gusts) x.place(gust, 0);
    }

    private void windyAlways() {
        for (int p = 0; p < x.count(0); p++) x.mend(p, LASTS, 60);
    }

    private void bytes(int shelf, int... values) {
        due.is("row", x.row(shelf, 0, values.length), 1);
        for (int i = 0; i < values.length; i++) due.is("put", x.put(shelf, i, values[i]), 1);
    }

    private int told(String text) {
        for (int i = 0; i < text.length(); i++) x.feed(text.charAt(i));
        return x.law();
    }

    private void newObject() {
        x = new PaneAcross();
        for (int what = 0; what < 5; what++) due.is("new: count " + what, x.count(what), 0);
        due.is("new: MEN", x.of(0, MEN), 2);
        due.is("new: STRENGTH", x.of(0, STRENGTH), 99);
        due.is("new: SCRATCH", x.of(0, SCRATCH), 0);
        due.is("new: PANE", x.of(0, PANE), 400);
        due.is("new: no place", x.of(0, GUST), BAD);
        int[] led = {0, 0, 0, 0, VOID, NOT, 0};
        for (int what = 0; what < led.length; what++) due.is("new: led " + what, x.led(what), led[what]);
        due.is("new: back", x.back(), STATE);
        due.is("new: undo", x.undo(), STATE);
        due.is("new: redo", x.redo(), STATE);
        for (int shelf = 0; shelf < 6; shelf++) due.is("new: taken", x.taken(shelf, 0), -11);
        PaneAcross other = new PaneAcross();
        x.place(1, 1);
        due.is("objects are apart", other.count(0), 0);
    }

    private void place() {
        x = new PaneAcross();
        due.is("gust too little", x.place(-1, 0), BAD);
        due.is("gust too much", x.place(31, 0), BAD);
        due.is("people too few", x.place(0, -1), BAD);
        due.is("people too many", x.place(0, 13), BAD);
        due.is("BAD changes nothing", x.count(0), 0);
        due.is("the first", x.place(30, 12), 0);
        int[] first = {30, 0, 10, 2, 0, 12, 3};
        for (int what = 0; what < 7; what++) due.is("number " + what, x.of(0, what), first[what]);
        for (int i = 1; i < 12; i++) due.is("place " + i, x.place(0, 0), i);
        due.is("a thirteenth", x.place(0, 0), FULL);
        due.is("BAD ahead of FULL", x.place(31, 0), BAD);
        due.is("twelve", x.count(0), 12);
        due.is("a place is no change", x.count(2), 0);
    }

    private void places() {
        x = new PaneAcross();
        due.is("nothing on the shelf", x.places(0, 0, 3), 0);
        due.is("no such shelf", x.places(6, 0, 3), BAD);
        due.is("below the shelves", x.places(-1, 0, 3), BAD);
        due.is("n 0", x.places(0, 0, 0), BAD);
        due.is("n 13", x.places(0, 0, 13), BAD);
        int[] noSuchPlaces = {-1, -2, -3, -12, Integer.MIN_VALUE, Integer.MIN_VALUE + 1, 9, 60, Integer.MAX_VALUE};
        for (int i : noSuchPlaces) due.is("nothing on the shelf, i " + i, x.places(0, i, 3), 0);
        due.is("no such shelf, i below 0", x.places(6, -1, 3), BAD);
        due.is("n 0, i below 0", x.places(0, -1, 0), BAD);
        due.is("n 13, i below 0", x.places(0, -1, 13), BAD);
        x.row(1, 1, 9);
        due.is("a row of shorts", x.places(1, 0, 3), -12);
        due.is("BAD ahead of -12", x.places(1, 0, 0), BAD);
        for (int i : noSuchPlaces) due.is("a row of shorts, i " + i, x.places(1, i, 3), -12);
        x.body(0);
        x.keep(2, 0);
        due.is("a pace", x.places(2, 0, 3), -12);
        due.is("a pace, i below 0", x.places(2, -1, 3), -12);
        x.row(5, 0, 9);
        for (int i : noSuchPlaces) due.is("the row is missing at " + i, x.places(5, i, 12), 0);
        due.is("none came", x.count(0), 0);
        bytes(0, 30, 9, 12, 1, 2, 3, 4, 5);
        due.is("it ends within a three", x.places(0, 0, 12), 2);
        int[][] came = {{30, 0, 10, 2, 9, 12, 3}, {1, 0, 10, 2, 2, 3, 3}};
        for (int p = 0; p < 2; p++) for (int w = 0; w < 7; w++) due.is("came " + p + " " + w, x.of(p, w), came[p][w]);
        due.is("from a place on", x.places(0, 3, 1), 1);
        due.is("GUST 1", x.of(2, GUST), 1);
        due.is("KERB 12 is not so", x.places(0, 1, 1), 0);
        due.is("n of them", x.places(0, 0, 1), 1);
        due.is("four", x.count(0), 4);
        due.is("at the end", x.places(0, 8, 1), 0);
        due.is("far behind the end", x.places(0, Integer.MAX_VALUE, 1), 0);
        bytes(3, 1, 1, 1, 31, 1, 1, 1, 1, 1);
        due.is("one is not so", x.places(3, 0, 3), 1);
        bytes(3, 1, 1, 13);
        due.is("PEOPLE 13", x.places(3, 0, 1), 0);
        bytes(3, 1, -1, 0);
        due.is("KERB -1", x.places(3, 0, 1), 0);
        x.row(4, 0, 60);
        due.is("till FULL", x.places(4, 0, 12), 7);
        due.is("FULL at once", x.places(4, 0, 12), 0);
        due.is("no changes", x.count(2), 0);
    }

    private void mendAndOf() {
        int[] first = {5, 0, 10, 2, 0, 0, 3, 2, 99, 0, 400};
        int[] least = {0, 0, 1, 0, 0, 0, 0, 1, 0, 0, 0};
        int[] most = {30, 30, 60, 60, 9, 12, 3, 6, 999, 99, 999};
        street(5, 5);
        for (int what = 0; what <= PANE; what++) {
            due.is("of " + what, x.of(0, what), first[what]);
            due.is("too little " + what, x.mend(0, what, least[what] - 1), BAD);
            due.is("too much " + what, x.mend(0, what, most[what] + 1), BAD);
            due.is("wrong ones change nothing", x.of(0, what), first[what]);
            due.is("the most of " + what, x.mend(0, what, most[what]), first[what]);
            due.is("the least of " + what, x.mend(0, what, least[what]), most[what]);
            due.is("it is so", x.of(0, what), least[what]);
            if (what < MEN) due.is("the other place stays", x.of(1, what), first[what]);
        }
        due.is("mend: no such place", x.mend(2, GUST, 1), BAD);
        due.is("mend: a place below 0", x.mend(-1, GUST, 1), BAD);
        due.is("mend: MEN of number 1", x.mend(1, MEN, 1), BAD);
        due.is("mend: what 11", x.mend(0, 11, 1), BAD);
        due.is("mend: what -1", x.mend(0, -1, 1), BAD);
        due.is("of: no such place", x.of(2, GUST), BAD);
        due.is("of: a place below 0", x.of(-1, GUST), BAD);
        due.is("of: PANE of number 1", x.of(1, PANE), BAD);
        due.is("of: what 11", x.of(0, 11), BAD);
        due.is("of: what -1", x.of(0, -1), BAD);
    }

    private void wind() {
        street(20, 7);
        x.mend(0, CALM, 3);
        due.is("minute 0", x.wind(0, 0), 20);
        due.is("minute 1", x.wind(0, 1), 20);
        due.is("minute 2", x.wind(0, 2), 3);
        due.is("minute 9", x.wind(0, 9), 3);
        due.is("minute 10", x.wind(0, 10), 20);
        due.is("minute 9990", x.wind(0, 9990), 20);
        due.is("minute 9999", x.wind(0, 9999), 3);
        due.is("minute 10000", x.wind(0, 10000), BAD);
        due.is("minute -1", x.wind(0, -1), BAD);
        due.is("place 2", x.wind(2, 0), BAD);
        due.is("place -1", x.wind(-1, 0), BAD);
        x.mend(1, EVERY, 1);
        due.is("every minute", x.wind(1, 59), 7);
        x.mend(1, LASTS, 0);
        due.is("never", x.wind(1, 0), 0);
        x.mend(1, EVERY, 60);
        x.mend(1, LASTS, 59);
        due.is("58 of 60", x.wind(1, 118), 7);
        due.is("59 of 60", x.wind(1, 119), 0);
    }

    private void feedAndLaw() {
        street(8);
        due.is("feed -1", x.feed(-1), BAD);
        due.is("feed 256", x.feed(256), BAD);
        for (int i = 1; i <= 120; i++) due.is("feed", x.feed(i % 2 == 1 ? 'w' : '+'), i);
        due.is("a full tape", x.feed('w'), FULL);
        due.is("BAD ahead of FULL", x.feed(256), BAD);
        due.is("bytes", x.count(1), 120);
        due.is("it ends too early", x.law(), -100 - 120);
        due.is("the tape is empty", x.count(1), 0);
        due.is("no law yet", x.strain(0, 0), 2);
        due.is("feed 0", x.feed(0), 1);
        due.is("feed 255", x.feed(255), 2);
        due.is("law of 0", x.law(), -100);
        due.is("an empty tape", x.law(), -100);
        due.is("a law", told("w+1"), 1);
        due.is("the tape is empty again", x.count(1), 0);
        due.is("by the law", x.strain(0, 0), 9);
        due.is("a fault", told("w+2+"), -104);
        due.is("the law stays", x.strain(0, 0), 9);
        due.is("another law", told("w*2"), 1);
        due.is("by the other", x.strain(0, 0), 16);
        StringBuilder longest = new StringBuilder("1");
        while (longest.length() < 119) longest.append("+1");
        due.is("119 bytes", told(longest.toString()), 1);
        due.is("sixty ones", x.strain(0, 0), 60);
        due.is("a law is no change", x.count(2), 0);
    }

    private void faults() {
        Object[][] texts = {
            {"w", -1}, {"wh", 1}, {"12345", 4}, {"1234", -1}, {"0000", -1}, {"w5", 1}, {"5w", 1}, {"", 0}, {" w", 0},
            {"w ", 1}, {"W", 0}, {"w;", 2}, {";w", 0}, {"w;;w", 2}, {"w?", 2}, {"w?h", -1}, {"w?h?k", 3}, {"?w", 0},
            {"w?h;k", -1}, {"w;k?h;m", -1}, {"(w?h)", 2}, {"(w;h)", 2}, {"(w", 2}, {"(w)", -1}, {"w)", 1}, {"()", 1},
            {"w<h", -1}, {"w<h<k", 3}, {"w=h>k", 3}, {"(w<h)<k", -1}, {"w<(h<k)", -1}, {"w<h|k<m", -1}, {"w<h&k=m", -1},
            {"w<h?k<m", -1}, {"w<h;k<m", -1}, {"w<=h", 2}, {"w||h", 2}, {"w&&h", 2}, {"w+*h", 2}, {"w+-h", -1},
            {"w--h", -1}, {"w-!h", -1}, {"w!h", 1}, {"+w", 0}, {"!", 1}, {"!!!!!!w", -1}, {"!!!!!!!w", 6},
            {"------w", -1}, {"-------w", 6}, {"((((((w))))))", -1}, {"(((((((w)))))))", 6}, {"(!(-(!w)))", -1},
            {"(!(-(!!w)))", 6}, {"(!(-(!(w))))", 6}, {"w-------h", -1}, {"w--------h", 8}, {"w-(-(-(-h)))", -1},
            {"!!!!!!w+!!!!!!h", -1}, {"(((((-w)+1)-h)*k)/2)%3", -1}, {"((((((w)+!h))))", 15},
            {"((((((w)+!(h", 10}, {"a", 0}, {"w+x", 2},
            {"w*", 2}, {"w/0", -1}, {"(((((((", 6}, {"w.h", 1}, {"1+1)", 3},
        };
        street(8);
        for (Object[] row : texts) {
            String text = (String) row[0];
            int fault = (Integer) row[1];
            due.is("law of " + text, told(text), fault < 0 ? 1 : -100 - fault);
        }
    }

    /** What a text gives in PLACE 3 in a minute of WIND 20, HELD as 2, MEN 3, KERB 5, SCRATCH 7. */
    private void worths() {
        Object[][] texts = {
            {"w", 20}, {"h", 2}, {"m", 3}, {"k", 5}, {"s", 7}, {"p", 3}, {"0", 0}, {"0042", 42}, {"9999", 99},
            {"-w", 0}, {"100-w", 80}, {"w-h-m", 15}, {"w-(h-m)", 21}, {"w/m/h", 3}, {"w/(m/h)", 20}, {"w%m*k", 10},
            {"2+3*4", 14}, {"(2+3)*4", 20}, {"-h+k", 3}, {"-w/m+50", 44}, {"-w%m+50", 48}, {"w/0", 0}, {"w%0", 0},
            {"w/(h-2)+1", 1}, {"!w", 0}, {"!0", 1}, {"!!w", 1}, {"!w+5", 5}, {"!(w<5)", 1}, {"w>19", 1}, {"w>20", 0},
            {"w=20", 1}, {"w=19", 0}, {"w<21", 1}, {"w<20", 0}, {"w&h", 1}, {"w&0", 0}, {"0|h", 1}, {"0|0", 0},
            {"1|0&0", 1}, {"(1|0)&0", 0}, {"2+3<6", 1}, {"1<2&2<3", 1}, {"w|h+90", 1}, {"w;h", 20}, {"0?w;h", 2},
            {"h?w;h", 20}, {"0?w", 0}, {"0?w;0?h", 0}, {"-1?7;8", 7}, {"h>2?1;h>1?2;3", 2}, {"h>3?1;h>2?2;3", 3},
            {"9999*9999*9999", 0}, {"9999*9999*99*99", 99}, {"0-1", 0}, {"--h", 2}, {"-(0-h)", 2}, {"w*h-k*s", 5},
            {"8192*8192*64+7", 7}, {"8192*8192*32<0", 1}, {"8192*8192*32/-1<0", 1}, {"8192*8192*32%-1", 0},
        };
        for (Object[] row : texts) {
            String text = (String) row[0];
            street(0, 0, 0, 20);
            x.mend(0, MEN, 3);
            x.mend(3, KERB, 5);
            x.mend(0, SCRATCH, 7);
            due.is("law of " + text, told(text), 1);
            due.is(text, x.strain(32, 0), (Integer) row[1]);
        }
    }

    private void strain() {
        street(30, 21);
        x.mend(1, KERB, 9);
        x.mend(1, CALM, 5);
        due.is("edge on: w by 4", x.strain(0, 0), 7);
        due.is("30 * 1 / 2", x.strain(1, 0), 15);
        due.is("30 * 3 / 2", x.strain(3, 0), 45);
        due.is("21 / 4 and the kerb", x.strain(10, 0), 14);
        due.is("21 / 2 and the kerb", x.strain(11, 0), 19);
        due.is("5 * 3 / 2 and the kerb", x.strain(13, 2), 16);
        due.is("calm, edge on", x.strain(10, 2), 10);
        x.mend(0, MEN, 1);
        due.is("one man", x.strain(13, 0), 72);
        x.mend(0, MEN, 6);
        due.is("six men", x.strain(3, 0), 15);
        due.is("minute 9999", x.strain(10, 9999), 10);
        due.is("minute 10000", x.strain(0, 10000), BAD);
        due.is("minute -1", x.strain(0, -1), BAD);
        due.is("h 4", x.strain(4, 0), BAD);
        due.is("h 9", x.strain(9, 0), BAD);
        due.is("place 2", x.strain(20, 0), BAD);
        due.is("below 0", x.strain(-1, 0), BAD);
        due.is("far below 0", x.strain(-10, 0), BAD);
        due.is("a narrow place strains, too", x.mend(0, NARROW, 0) + x.strain(3, 0), 3 + 15);
    }

    private void walk() {
        street(8, 20, 12);
        bytes(0, 0, 3, 3);
        // 8/4; 20*3/2 and a turn; calm.
        due.is("no crack", x.walk(0, 0, 0), NOT);
        due.is("greatest", x.walk(0, 0, 1), 2 + 31);
        due.is("passes", x.walk(0, 0, 2), 1);
        x.mend(0, STRENGTH, 33);
        due.is("just not too much", x.walk(0, 0, 0), NOT);
        x.mend(0, STRENGTH, 32);
        due.is("too much in place 1", x.walk(0, 0, 0), 1);
        x.mend(0, STRENGTH, 999);
        windyAlways();
        due.is("it grows on", x.walk(0, 0, 1), 2 + 31 + 18);
        x.mend(0, STRENGTH, 51);
        x.mend(0, SCRATCH, 1);
        due.is("5 less for a scratch", x.walk(0, 0, 0), 2);
        x.mend(0, SCRATCH, 99);
        due.is("below 0 it cracks at once", x.walk(0, 0, 0), 0);
        due.is("the greatest in spite of that", x.walk(0, 0, 1), 51);
        x.mend(0, SCRATCH, 0);
        bytes(0, 7, -1);
        due.is("none of 0 to 3, and missing: edge on", x.walk(0, 0, 1), 2 + 5 + 3);
        x.mend(1, NARROW, 2);
        bytes(0, 3, 2, 3);
        due.is("just not too narrow", x.walk(0, 0, 2), 1);
        bytes(0, 3, 3, 3);
        due.is("too narrow", x.walk(0, 0, 2), 0);
        due.is("it cracks by strain alone", x.mend(0, STRENGTH, 999) * 0 + x.walk(0, 0, 0), NOT);
        due.is("minute 999", x.walk(0, 999, 1), 12 + 30 + 18);
        x.row(1, 0, 0);
        due.is("an empty row", x.walk(1, 0, 1), 10);
    }

    private void start() {
        street(12, 12);
        bytes(0, 0, 0);
        // Gusts in minutes 0, 1, 10, 11: the first minute with calm in both is 2.
        due.is("the first of the best", x.start(0, 0), 2);
        due.is("its strain", x.start(0, 1), 0);
        x.mend(0, LASTS, 9);
        due.is("3 in place 0 alone: first in 1", x.start(0, 0), 1);
        due.is("3", x.start(0, 1), 3);
        windyAlways();
        due.is("all alike", x.start(0, 0), 0);
        due.is("all alike: 6", x.start(0, 1), 6);
        x.mend(0, EVERY, 60);
        x.mend(0, LASTS, 59);
        due.is("the last minute", x.start(0, 0), 59);
        due.is("what 2", x.start(0, 2), BAD);
        due.is("what -1", x.start(0, -1), BAD);
    }

    private void hold() {
        street(20, 20, 20);
        windyAlways();
        // Edge on 5 each.
        due.is("edge on", x.hold(0, 0), 0);
        due.is("15", x.hold(0, 1), 15);
        due.is("does not crack", x.hold(0, 2), 0);
        x.mend(0, STRENGTH, 15);
        due.is("just not", x.hold(0, 2), 0);
        x.mend(0, STRENGTH, 14);
        due.is("cracks", x.hold(0, 2), 1);
        told("h=p?0;9");
        due.is("turns cost 1 each", x.hold(0, 0), 12);
        due.is("two turns", x.hold(0, 1), 2);
        x.mend(2, NARROW, 1);
        due.is("as NARROW lets: 0, 1, 1", x.hold(0, 0), 11);
        due.is("9 and a turn", x.hold(0, 1), 10);
        told("3-h");
        x.mend(2, NARROW, 3);
        due.is("flat everywhere", x.hold(0, 0), 333);
        x.mend(1, NARROW, 2);
        due.is("332, 323, 322, 222, 233: all 2 or more", x.hold(0, 1), 3);
        due.is("like ones: the first by numbers", x.hold(0, 0), 222);
        told("1");
        due.is("all alike: the first", x.hold(0, 0), 0);
        due.is("minute 1000", x.hold(1000, 0), LONG_BAD);
        due.is("minute -1", x.hold(-1, 0), LONG_BAD);
        due.is("what 3", x.hold(0, 3), LONG_BAD);
        due.is("what -1", x.hold(0, -1), LONG_BAD);
        x = new PaneAcross();
        due.is("BAD ahead of STATE", x.hold(1000, 0), LONG_BAD);
        due.is("no places", x.hold(0, 1), STATE);
        for (int i = 0; i < 12; i++) x.place(0, 0);
        told("3-h");
        due.is("twelve digits", x.hold(999, 0), 333333333333L);
    }

    private void soonest() {
        street(30, 30, 30);
        due.is("straight on", x.soonest(0), 2);
        // Minutes 0, 1 are gusty (7 each), from 2 on calm.
        x.mend(0, STRENGTH, 14);
        due.is("7, 7, 0", x.soonest(0), 2);
        x.mend(0, STRENGTH, 13);
        // A gusty minute 1 comes in any way: 7 + 7 is too much.
        due.is("never", x.soonest(0), NOT);
        due.is("from minute 1 on: 7, 0, 0", x.soonest(1), 2);
        due.is("from minute 9 on: 0, 7, 7 is too much, resting too", x.soonest(9), NOT);
        due.is("from minute 8 on: 0, 0, 7", x.soonest(8), 2);
        x.mend(1, LASTS, 0);
        due.is("minutes 9, 10, 11 but place 1 is calm: 0, 0, 7", x.soonest(9), 2);
        x.mend(0, STRENGTH, 6);
        due.is("rest in place 1 in 10, 11", x.soonest(9), 3);
        x.mend(2, LASTS, 60);
        due.is("the shop is always gusty", x.soonest(9), NOT);
        x.mend(2, EVERY, 60);
        x.mend(2, LASTS, 58);
        x.mend(0, LASTS, 0);
        due.is("till minute 58", x.soonest(0), 58);
        due.is("till minute 118", x.soonest(60), 58);
        // Place 1 is calm in minutes 59 and 119 alone, the shop in 39, 79, 119, 159.
        street(0, 30, 0, 30);
        x.mend(1, EVERY, 60);
        x.mend(1, LASTS, 59);
        x.mend(3, EVERY, 40);
        x.mend(3, LASTS, 39);
        x.mend(0, STRENGTH, 6);
        due.is("in place 1 in 59, in the shop in 79", x.soonest(0), 79);
        due.is("in place 1 in 119, in the shop in 159: 99", x.soonest(60), 99);
        due.is("100 minutes are too many", x.soonest(59), NOT);
        street(8);
        due.is("one place alone", x.soonest(0), 0);
        x.mend(0, STRENGTH, 1);
        due.is("it cracks at once", x.soonest(0), NOT);
        due.is("minute 999", x.soonest(999), 0);
        due.is("minute 1000", x.soonest(1000), BAD);
        due.is("minute -1", x.soonest(-1), BAD);
    }

    private void safest() {
        street(30, 30, 30);
        due.is("too few minutes", x.safest(0, 1), NOT);
        due.is("7, 7, 0", x.safest(0, 2), 14);
        due.is("a rest in calm eases by 3", x.safest(0, 3), 11);
        due.is("and again", x.safest(0, 4), 8);
        due.is("8 calm minutes, two of them paces: six rests", x.safest(0, 7), 0);
        due.is("no less than 0", x.safest(0, 60), 0);
        x.mend(0, KERB, 2);
        x.mend(1, KERB, 3);
        x.mend(2, KERB, 1);
        // 9 and 9, or 9 and 10; then rests in place 0 take 1 off, in place 1 none.
        due.is("kerbs: 9, 10, 1", x.safest(0, 2), 20);
        due.is("9, 9, 3, 1", x.safest(0, 3), 20);
        due.is("rests in place 0: 9, 9, -1 for each", x.safest(0, 5), 18 - 1 - 1 + 3 + 1);
        street(8);
        due.is("one place: its first minute's", x.safest(0, 60), 2);
        x.mend(0, STRENGTH, 1);
        due.is("it cracks", x.safest(0, 60), NOT);
        due.is("n 61", x.safest(0, 61), BAD);
        due.is("n -1", x.safest(0, -1), BAD);
        due.is("minute 1000", x.safest(1000, 0), BAD);
        due.is("minute -1", x.safest(-1, 0), BAD);
    }

    private void menForVan() {
        street(20, 20, 20);
        windyAlways();
        bytes(0, 3, 3, 3);
        // 60 / m at each.
        due.is("180 / 2 = 90", x.menFor(0, 0), 2);
        x.mend(0, STRENGTH, 60);
        due.is("20 at each", x.menFor(0, 0), 3);
        x.mend(0, STRENGTH, 30);
        due.is("10 at each", x.menFor(0, 0), 6);
        x.mend(0, STRENGTH, 29);
        due.is("not even six", x.menFor(0, 0), NOT);
        due.is("MEN stay", x.of(0, MEN), 2);
        due.is("no change kept but mends", x.count(2), 6);
        x.mend(0, STRENGTH, 999);
        due.is("one man", x.menFor(0, 0), 1);
        x.mend(0, STRENGTH, 89);
        due.is("van in place 1", x.van(0, 0), 1);
        x.mend(0, STRENGTH, 59);
        due.is("van in place 2", x.van(0, 0), 2);
        x.mend(0, STRENGTH, 29);
        due.is("not even in the shop", x.van(0, 0), NOT);
        x.mend(0, STRENGTH, 90);
        due.is("where it stands", x.van(0, 0), 0);
        bytes(0, 3, 0, 3);
        x.mend(0, STRENGTH, 36);
        due.is("bytes by places; 5 and 31", x.van(0, 0), 1);
        x.mend(0, STRENGTH, 35);
        due.is("no turn at the van", x.van(0, 0), 2);
        told("p*10");
        x.mend(0, STRENGTH, 25);
        due.is("p is the place still", x.van(0, 0), 2);
        told("0");
        due.is("van 0", x.van(0, 999), 0);
        due.is("van: minute 1000", x.van(0, 1000), BAD);
        due.is("menFor: minute 1000", x.menFor(0, 1000), BAD);
        told("m=4?0;99");
        due.is("men by the law", x.menFor(0, 0), 4);
        street(20, 0);
        bytes(0, 3, 0);
        x.mend(1, GUST, 30);
        x.mend(0, STRENGTH, 7);
        due.is("van 1 begins in that minute: 7", x.van(0, 1), 1);
        x.mend(0, STRENGTH, 6);
        due.is("a gust in minute 1", x.van(0, 1), NOT);
        due.is("calm in minute 2", x.van(0, 2), 0);
    }

    private void windFromScratchFor() {
        street(0, 0);
        bytes(0, 2, 2);
        x.mend(0, STRENGTH, 19);
        // x in minutes 0 and 1: 2x / 2 each.
        due.is("2x is more than 19 from 10 on", x.windFrom(0, 0), 10);
        due.is("GUSTS stay", x.of(0, GUST), 0);
        due.is("minute 1: one gusty minute", x.windFrom(0, 1), 20);
        due.is("calm", x.windFrom(0, 2), NOT);
        x.mend(0, STRENGTH, 60);
        due.is("30 is not enough", x.windFrom(0, 0), NOT);
        x.mend(0, STRENGTH, 59);
        due.is("30 is", x.windFrom(0, 0), 30);
        x.mend(0, GUST, 30);
        x.mend(1, GUST, 30);
        due.is("it cracks as it is", x.windFrom(0, 0), 0);
        x.mend(0, STRENGTH, 64);
        due.is("gusts above 30", x.windFrom(0, 0), 3);
        due.is("minute 1000", x.windFrom(0, 1000), BAD);
        x.mend(0, STRENGTH, 60);
        due.is("no scratch", x.scratchFor(0, 0), 0);
        x.mend(0, STRENGTH, 59);
        due.is("not even none", x.scratchFor(0, 0), NOT);
        x.mend(0, STRENGTH, 69);
        due.is("9 left: one", x.scratchFor(0, 0), 1);
        x.mend(0, STRENGTH, 70);
        due.is("10 left: two", x.scratchFor(0, 0), 2);
        due.is("SCRATCH stays", x.of(0, SCRATCH), 0);
        x.mend(0, STRENGTH, 999);
        told("0");
        due.is("all that may be", x.scratchFor(0, 0), 99);
        told("s=17?0;99");
        due.is("505 is more than two times 99", x.scratchFor(0, 0), 99);
        x.mend(0, STRENGTH, 90);
        due.is("by the law", x.scratchFor(0, 0), 17);
        due.is("scratchFor: minute 1000", x.scratchFor(0, 1000), BAD);
    }

    private void freeWatchEarlier() {
        x = new PaneAcross();
        due.is("free: no places", x.free(0), STATE);
        due.is("free: BAD ahead of STATE", x.free(2), LONG_BAD);
        due.is("watch: BAD ahead of STATE", x.watch(3), LONG_BAD);
        due.is("earlier: BAD ahead of STATE", x.earlier(13, 0), LONG_BAD);
        x.place(0, 0);
        due.is("surely", x.free(0), 1);
        due.is("1 below", x.free(1), 1);
        due.is("no likelier", x.earlier(5, 0), 0);
        due.is("0 of 1", x.earlier(5, 1), 1);
        x.place(0, 3);
        x.place(0, 4);
        due.is("3/4 * 2/3", x.free(0), 1);
        due.is("in lowest terms", x.free(1), 2);
        due.is("watch place 2", x.watch(2), 2);
        due.is("3/4", x.watch(0), 3);
        due.is("3/4 below", x.watch(1), 4);
        // 10/12 * 9/12 = 5/8; 5/8 - 1/2.
        due.is("one fewer", x.earlier(1, 0), 1);
        due.is("one fewer below", x.earlier(1, 1), 8);
        due.is("0 at least: 1 - 1/2", x.earlier(12, 1), 2);
        due.is("none fewer", x.earlier(0, 0), 0);
        due.is("n -1", x.earlier(-1, 0), LONG_BAD);
        due.is("part 2", x.earlier(1, 2), LONG_BAD);
        due.is("free -1", x.free(-1), LONG_BAD);
        due.is("watch -1", x.watch(-1), LONG_BAD);
        x.mend(1, PEOPLE, 4);
        due.is("like ones: the first", x.watch(2), 1);
        x.mend(1, PEOPLE, 12);
        due.is("never", x.free(0), 0);
        due.is("0 of 1 again", x.free(1), 1);
        due.is("watch where all depends on it", x.watch(2), 1);
        for (int i = 3; i < 12; i++) x.place(0, 1);
        x.mend(0, PEOPLE, 1);
        x.mend(1, PEOPLE, 1);
        x.mend(2, PEOPLE, 1);
        due.is("11 to the 12th", x.free(0), 3138428376721L);
        due.is("12 to the 12th", x.free(1), 8916100448256L);
        due.is("12 to the 12th less 11 to the 12th", x.earlier(1, 0), 5777672071535L);
    }

    private void cost() {
        street(20, 20);
        windyAlways();
        bytes(0, 0, 0);
        due.is("nobody, no crack", x.cost(0, 0, 0), 0);
        due.is("0 of 1", x.cost(0, 0, 1), 1);
        x.mend(1, PEOPLE, 9);
        due.is("400 * 3/4", x.cost(0, 0, 0), 300);
        due.is("300 of 1", x.cost(0, 0, 1), 1);
        x.mend(1, PEOPLE, 1);
        due.is("400/12", x.cost(0, 0, 0), 100);
        due.is("100/3", x.cost(0, 0, 1), 3);
        x.mend(0, STRENGTH, 9);
        due.is("it cracks", x.cost(0, 0, 0), 400);
        due.is("400 of 1", x.cost(0, 0, 1), 1);
        x.mend(0, PANE, 0);
        due.is("a pane for nothing", x.cost(0, 0, 0), 0);
        due.is("part 2", x.cost(0, 0, 2), LONG_BAD);
        due.is("minute 1000", x.cost(0, 1000, 0), LONG_BAD);
        due.is("nothing there", x.cost(1, 0, 0), LONG_BAD);
        x.row(1, 4, 5);
        due.is("booleans", x.cost(1, 0, 0), LONG_BAD);
        due.is("no such shelf", x.cost(6, 0, 0), LONG_BAD);
    }

    private void begunJudge() {
        street(12, 12, 12);
        // Edge on 3 in gusty minutes (0, 1, 10, 11 and so on).
        bytes(0, 3, 6, 6);
        long tens = 0;
        for (int m = 0; m < 60; m += 10) tens |= 1L << m;
        due.is("begun in 0, 10 ..", x.begun(0, 0), tens);
        due.is("judged so", x.judge(0, 0), NOT);
        due.is("minute 1: 3, 3", x.judge(0, 10), 1);
        due.is("minute 2: 0", x.judge(0, 20), 0);
        due.is("minute 990", x.judge(0, 9900), NOT);
        bytes(0, 3, 6);
        due.is("as far as it goes", x.begun(0, 0), tens);
        bytes(0, 3, 6, 6, 6);
        due.is("one too much", x.judge(0, 0), 3);
        due.is("one too much: never", x.begun(0, 0), 0);
        x.row(0, 0, 0);
        due.is("nothing seen", x.judge(0, 0), NOT);
        due.is("nothing seen: any minute", x.begun(0, 0), (1L << 60) - 1);
        bytes(0, 36, 36 + 36);
        x.mend(0, MEN, 1);
        due.is("held flat, no turn at first", x.judge(0, 3), NOT);
        x.mend(0, GUST, 30);
        x.mend(1, GUST, 30);
        bytes(0, 90, 120, 120);
        due.is("120 at most", x.judge(0, 3), NOT);
        x.mend(0, STRENGTH, 0);
        due.is("cracked or not", x.judge(0, 3), NOT);
        bytes(0, 90, 127);
        due.is("127 is not so", x.judge(0, 3), 1);
        due.is("h 4", x.judge(0, 4), BAD);
        due.is("minute 1000", x.judge(0, 10000), BAD);
        due.is("minute 999", x.judge(0, 9990), 0);
        due.is("below 0", x.judge(0, -1), BAD);
        due.is("begun h 4", x.begun(0, 4), LONG_BAD);
        due.is("begun h -1", x.begun(0, -1), LONG_BAD);
        due.is("begun shelf 6", x.begun(6, 0), LONG_BAD);
        due.is("begun nothing", x.begun(3, 0), LONG_BAD);
        x.row(3, 2, 5);
        due.is("begun ints", x.begun(3, 0), LONG_BAD);
        due.is("judge ints", x.judge(3, 0), -12);
        due.is("judge nothing", x.judge(4, 0), -11);
    }

    private void drawn() {
        street(0, 0, 0);
        due.is("all come there", x.drawn(1, 300, 0), 30);
        due.is("90 places", x.drawn(1, 300, 1), 90);
        x.mend(1, PEOPLE, 12);
        due.is("nobody comes", x.drawn(1, 300, 0), 0);
        due.is("place 0 is passed", x.drawn(1, 300, 1), 30);
        x.mend(1, PEOPLE, 0);
        // z: 12345, then 12345 * 1103515245 + 12345 and so on; (z >>> 8) % 12 by a count of one's own.
        int z = 0, passed = 0, there = 0;
        x.mend(0, PEOPLE, 5);
        x.mend(1, PEOPLE, 3);
        x.mend(2, PEOPLE, 6);
        int[] people = {5, 3, 6};
        for (int walk = 0; walk < 30; walk++) {
            boolean on = true;
            for (int p = 0; p < 3 && on; p++) {
                z = z * 1103515245 + 12345;
                on = (z >>> 8) % 12 >= people[p];
                if (on) passed++;
            }
            if (on) there++;
        }
        due.is("there by draws", x.drawn(0, 300, 0), there);
        due.is("places by draws", x.drawn(0, 300, 1), passed);
        due.isTrue("some come, some do not", there > 0 && there < 30);
        street(20, 20);
        windyAlways();
        x.mend(0, STRENGTH, 59);
        due.is("flat: 30, and it cracks in place 1", x.drawn(1, 23, 0), 0);
        due.is("place 0 is passed, place 1 is not", x.drawn(1, 23, 1), 2);
        due.is("edge on", x.drawn(1, 20, 0), 2);
        x.mend(0, EVERY, 8);
        x.mend(0, LASTS, 1);
        x.mend(1, LASTS, 0);
        x.mend(0, STRENGTH, 29);
        // Begun in 0, 7, 14, .. 56: gusty in place 0 where m % 8 is 0: 0 and 56.
        due.is("nine walks by minutes", x.drawn(1, 93, 0), 7);
        due.is("n 0", x.drawn(1, 3, 0), BAD);
        due.is("n 31", x.drawn(1, 310, 0), BAD);
        due.is("h 4", x.drawn(1, 14, 0), BAD);
        due.is("below 0", x.drawn(1, -10, 0), BAD);
        due.is("what 2", x.drawn(1, 10, 2), BAD);
        due.is("what -1", x.drawn(1, 10, -1), BAD);
    }

    private void led(int... want) {
        for (int what = 0; what < want.length; what++) due.is("led " + what, x.led(what), want[what]);
    }

    private void deeds() {
        street(20, 20, 20);
        windyAlways();
        due.is("set out", x.out(0, 0), 1);
        led(0, 0, 0, 0, VOID, 0, 5);
        due.is("another", x.out(0, 0), STATE);
        due.is("pace, turned", x.pace(1), 1);
        led(0, 0, 1, 0, VOID, 1, 16);
        due.is("rest, held so still", x.rest(1), 1);
        led(0, 0, 1, 1, VOID, 1, 26);
        due.is("rest, turned", x.rest(0), 1);
        led(0, 0, 1, 2, VOID, 1, 32);
        due.is("into the shop", x.pace(0), 1);
        led(1, 0, 2, 2, 99 - 37, NOT, 0);
        due.is("it is over", x.pace(0), STATE);
        due.is("over for rests", x.rest(0), STATE);
        x.mend(0, STRENGTH, 20);
        due.is("out again", x.out(0, 0), 1);
        due.is("pace", x.pace(0), 1);
        due.is("pace to 15", x.pace(0), 1);
        led(2, 0, 4, 2, 5, NOT, 0);
        x.mend(0, STRENGTH, 30);
        due.is("flat", x.out(0, 3), 1);
        led(2, 0, 4, 2, 5, 0, 30);
        due.is("it cracks", x.pace(3), 0);
        led(2, 1, 5, 2, 5, NOT, 0);
        x.out(0, 0);
        x.rest(0);
        due.is("cracks at rest", x.rest(3), 0);
        led(2, 2, 5, 4, 5, NOT, 0);
        x.mend(0, SCRATCH, 6);
        due.is("at once", x.out(0, 0), 0);
        led(2, 3, 5, 4, 5, NOT, 0);
        x.mend(0, SCRATCH, 1);
        x.out(0, 0);
        x.pace(0);
        x.pace(0);
        led(3, 3, 7, 4, 5, NOT, 0);
        x.mend(0, SCRATCH, 2);
        x.out(0, 0);
        x.pace(0);
        x.pace(0);
        led(4, 3, 9, 4, 5, NOT, 0);
        x.mend(0, SCRATCH, 3);
        x.out(0, 0);
        x.pace(0);
        x.pace(0);
        due.is("less is left", x.led(4), 0);
        due.is("deeds are no changes", x.count(2), 3 + 6);
        street(8);
        due.is("one place alone", x.out(5, 3), 1);
        led(1, 0, 0, 0, 99, NOT, 0);
        x.mend(0, STRENGTH, 1);
        due.is("one place, cracked", x.out(0, 0), 0);
        led(1, 1, 0, 0, 99, NOT, 0);
    }

    private void deedsRefused() {
        x = new PaneAcross();
        due.is("out: no places", x.out(0, 0), STATE);
        due.is("out: BAD ahead of STATE", x.out(0, 4), BAD);
        due.is("pace: BAD ahead of STATE", x.pace(4), BAD);
        due.is("rest: BAD ahead of STATE", x.rest(-1), BAD);
        due.is("led 7", x.led(7), BAD);
        due.is("led -1", x.led(-1), BAD);
        street(0, 0, 0);
        due.is("minute 1000", x.out(1000, 0), BAD);
        due.is("minute -1", x.out(-1, 0), BAD);
        due.is("h -1", x.out(0, -1), BAD);
        x.mend(0, NARROW, 1);
        x.mend(1, NARROW, 2);
        due.is("too narrow", x.out(999, 2), NOT);
        led(0, 0, 0, 0, VOID, NOT, 0);
        due.is("just not", x.out(999, 1), 1);
        due.is("STATE ahead of NOT", x.out(0, 3), STATE);
        due.is("the next is too narrow", x.pace(3), NOT);
        led(0, 0, 0, 0, VOID, 0, 0);
        due.is("this one is too narrow", x.rest(2), NOT);
        led(0, 0, 0, 0, VOID, 0, 0);
        due.is("the next lets it pass", x.pace(2), 1);
        due.is("a turn", x.led(6), 1);
        due.is("rest there so", x.rest(2), 1);
        due.is("calm", x.led(6), 0);
        due.is("pace 4", x.pace(4), BAD);
        due.is("rest 4", x.rest(4), BAD);
        x.place(0, 0);
        due.is("a longer street", x.pace(0), 1);
        due.is("not there yet", x.led(5), 2);
        due.is("now", x.pace(0), 1);
        due.is("arrived", x.led(0), 1);
    }

    private void restsEase() {
        street(20, 20, 20);
        x.out(1, 0);
        due.is("gusty", x.led(6), 5);
        x.rest(0);
        due.is("3 less", x.led(6), 2);
        x.rest(0);
        due.is("0 at least", x.led(6), 0);
        x.pace(3);
        due.is("no ease by a pace", x.led(6), 1);
        x.mend(1, KERB, 9);
        x.rest(0);
        due.is("1 + 9 + 1 - 3", x.led(6), 8);
        x.mend(1, CALM, 1);
        x.rest(0);
        due.is("wind 1: no ease", x.led(6), 17);
        x.mend(1, CALM, 0);
        x.mend(0, STRENGTH, 23);
        due.is("26 - 3 is not too much", x.rest(0), 1);
        due.is("23", x.led(6), 23);
        due.is("29 is", x.rest(0), 0);
    }

    private void imageBack() {
        street(20, 20);
        windyAlways();
        due.is("image of nothing", x.image(), 0);
        x.out(0, 0);
        x.pace(0);
        led(1, 0, 1, 0, 89, NOT, 0);
        due.is("back", x.back(), 0);
        led(0, 0, 0, 0, VOID, NOT, 0);
        x.out(0, 0);
        x.pace(0);
        x.out(1, 3);
        x.rest(3);
        due.is("image of a walk", x.image(), 1);
        x.mend(0, STRENGTH, 100);
        x.pace(3);
        led(2, 0, 2, 1, 10, NOT, 0);
        x.out(0, 0);
        x.mend(0, STRENGTH, 0);
        x.rest(0);
        due.is("one cracked", x.led(1), 1);
        due.is("back to it", x.back(), 1);
        led(1, 0, 1, 1, 89, 0, 60);
        due.is("numbers stay", x.of(0, STRENGTH), 0);
        x.mend(0, STRENGTH, 99);
        due.is("held as it was: no turn", x.pace(3), 1);
        led(2, 0, 2, 1, 9, NOT, 0);
        due.is("once more", x.back(), 1);
        led(1, 0, 1, 1, 89, 0, 60);
        x.mend(1, EVERY, 3);
        x.mend(1, LASTS, 1);
        due.is("the minute was kept: 3 is gusty", x.pace(3), 1);
        due.is("30 more", x.led(4), 9);
    }

    private void undoRedo() {
        street(5, 6);
        x.mend(0, GUST, 7);
        x.mend(1, KERB, 4);
        x.mend(0, MEN, 3);
        x.mend(0, PANE, 1);
        due.is("the same number", x.mend(0, PANE, 1), 1);
        due.is("four", x.count(2), 4);
        due.is("undo", x.undo(), 3);
        due.is("PANE as it was", x.of(0, PANE), 400);
        due.is("undo MEN", x.undo(), 2);
        due.is("MEN as it was", x.of(0, MEN), 2);
        due.is("undo KERB", x.undo(), 1);
        due.is("undo GUST", x.undo(), 0);
        due.is("GUST as it was", x.of(0, GUST), 5);
        due.is("none", x.undo(), STATE);
        due.is("redo", x.redo(), 3);
        due.is("GUST again", x.of(0, GUST), 7);
        due.is("redo KERB", x.redo(), 2);
        due.is("KERB again", x.of(1, KERB), 4);
        x.place(9, 9);
        x.out(0, 0);
        due.is("the same number is none", x.mend(0, MEN, 2), 2);
        due.is("redo MEN behind that", x.redo(), 1);
        due.is("MEN again", x.of(0, MEN), 3);
        due.is("three", x.count(2), 3);
        x.mend(0, SCRATCH, 1);
        due.is("another came behind", x.redo(), STATE);
        due.is("undo it", x.undo(), 3);
        due.is("redo it", x.redo(), 0);
        due.is("no more", x.redo(), STATE);
        for (int i = 0; i < 45; i++) x.mend(0, STRENGTH, 100 + i);
        due.is("40 at most", x.count(2), 40);
        for (int i = 39; i >= 0; i--) due.is("undo " + i, x.undo(), i);
        due.is("the oldest are lost", x.undo(), STATE);
        due.is("as it was ahead of the 40", x.of(0, STRENGTH), 104);
        for (int i = 39; i >= 0; i--) due.is("redo " + i, x.redo(), i);
        due.is("the latest", x.of(0, STRENGTH), 144);
        x.undo();
        x.mend(0, STRENGTH, 7);
        due.is("40 still", x.count(2), 40);
        x.undo();
        due.is("undone to", x.of(0, STRENGTH), 143);
        due.is("the walk is on still", x.led(5), 0);
        due.is("the places are there still", x.count(0), 3);
    }

    private void bodies() {
        x = new PaneAcross();
        due.is("kind 8", x.body(8), BAD);
        due.is("kind -1", x.body(-1), BAD);
        for (int i = 0; i < 50; i++) due.is("body " + i, x.body(i % 8), i);
        due.is("a fifty-first", x.body(0), FULL);
        due.is("BAD ahead of FULL", x.body(8), BAD);
        due.is("fifty", x.count(3), 50);
        due.is("the last has kind 1", x.keep(0, 49) + x.taken(0, 0), 2);
    }

    private void traced(int... want) {
        due.is("how many ran", x.count(4), want.length);
        for (int i = 0; i < want.length; i++) due.is("trace " + i, x.trace(i), want[i]);
        due.is("behind the trace", x.trace(want.length), BAD);
        due.is("ahead of the trace", x.trace(-1), BAD);
    }

    private void acts() {
        x = new PaneAcross();
        traced();
        for (int kind = 0; kind < 8; kind++) x.body(kind);
        due.is("PACE goes", x.act(0, 0, 5), 5);
        traced(1);
        due.is("PACE strains", x.act(0, 1, 5), 10);
        traced(10, 1);
        due.is("PACE tells: 10 - 1", x.act(0, 3, 5), 9);
        traced(2, 10, 1, 11);
        due.is("EDGE goes: 5 + 1 + 3", x.act(1, 0, 5), 9);
        traced(20, 1);
        due.is("EDGE strains", x.act(1, 1, 5), 18);
        traced(10, 20, 1);
        due.is("FLAT strains: -(7 * 2)", x.act(2, 1, 5), -14);
        traced(30, 10, 1);
        due.is("FLAT leans: 5 ^ 2", x.act(2, 2, 5), 7);
        traced(11);
        due.is("GUST strains: -((6 + 3) * 2)", x.act(3, 1, 5), -18);
        traced(41, 30, 10, 1);
        due.is("GUST leans: (5 ^ 3) * 3", x.act(3, 2, 5), 18);
        traced(40, 11);
        due.is("GUST tells: -18 - (1 ^ 3) * 3", x.act(3, 3, 5), -24);
        traced(2, 41, 30, 10, 1, 40, 11);
        due.is("KERB leans: (5 ^ 4) - (2 + 4 + 3)", x.act(4, 2, 5), -8);
        traced(50, 11, 20, 1);
        due.is("CRACK goes", x.act(5, 0, 5), 10);
        traced(1);
        due.is("CRACK tells: (-(11 * 2) - (1 ^ 5) * 3) ^ 5", x.act(5, 3, 5), -34 ^ 5);
        traced(60, 2, 41, 30, 10, 1, 40, 11);
        due.is("REST goes: (5 + 6) * 2", x.act(6, 0, 5), 22);
        traced(70, 1);
        due.is("REST tells: 44 - (1 ^ 6)", x.act(6, 3, 5), 37);
        traced(2, 10, 70, 1, 11);
        // goes(x) = x + 10; leans(x) = (x ^ 7) - 12; strains(x) = (x + 10) * 2 + (5 - 12).
        due.is("HOOP strains", x.act(7, 1, 5), 23);
        traced(80, 10, 20, 1, 50, 11, 20, 1);
        due.is("HOOP tells: 23 - (6 - 12) - 1", x.act(7, 3, 5), 28);
        traced(81, 2, 80, 10, 20, 1, 50, 11, 20, 1, 50, 11, 20, 1);
        due.is("no such act", x.act(7, 4, 5), 0);
        traced();
        x.act(7, 3, 5);
        due.is("act -1", x.act(7, -1, 5), 0);
        traced();
        x.act(7, 3, 5);
        due.is("no such body", x.act(8, 0, 5), 0);
        traced();
        due.is("body -1", x.act(-1, 0, 5), 0);
        due.is("it wraps", x.act(1, 0, Integer.MAX_VALUE), Integer.MIN_VALUE + 3);
        due.is("n counts", x.body(0) + x.act(8, 0, 5), 21);
    }

    private void shelves() {
        long[][] fits = {{-56, 1, 1}, {456, 1, 1}, {65992, 1, 1}, {4295033288L, 1, 1}, {1, 1, 1}};
        long big = 4295033288L; // 2^32 + 2^16 + 456
        x = new PaneAcross();
        for (int sort = 0; sort < 5; sort++) {
            due.is("row", x.row(sort, sort, 60), 1);
            due.is("0 at first", x.element(sort, 59), 0);
            due.is("put", x.put(sort, 59, big), 1);
            due.is("its lowest bits", x.element(sort, 59), fits[sort][0]);
            due.is("put -1", x.put(sort, 0, -1), 1);
            due.is("-1", x.element(sort, 0), sort == 4 ? 1 : -1);
            due.is("put 0", x.put(sort, 0, 0), 1);
            due.is("0", x.element(sort, 0), 0);
            due.is("place 60", x.put(sort, 60, 1), -13);
            due.is("place -1", x.put(sort, -1, 1), -13);
            due.is("element 60", x.element(sort, 60), LONG_BAD);
            due.is("element -1", x.element(sort, -1), LONG_BAD);
        }
        due.is("a new row is 0 again", x.row(0, 3, 60) + x.element(0, 59), 1);
        due.is("sort 5", x.row(0, 5, 1), BAD);
        due.is("sort -1", x.row(0, -1, 1), BAD);
        due.is("61", x.row(0, 0, 61), BAD);
        due.is("shelf 6", x.row(6, 0, 1), BAD);
        due.is("shelf -1", x.row(-1, 0, 1), BAD);
        due.is("a size below 0", x.row(0, 0, -1), -14);
        due.is("BAD ahead of -14", x.row(0, 5, -1), BAD);
        due.is("wrong ones change nothing", x.put(0, 59, big) * x.element(0, 59), big);
        due.is("an empty row", x.row(0, 0, 0), 1);
        due.is("has no place 0", x.put(0, 0, 1), -13);
        due.is("shelf 6: put", x.put(6, 0, 1), BAD);
        due.is("shelf -1: put", x.put(-1, 0, 1), BAD);
        due.is("nothing: put", x.put(5, 0, 1), -11);
        due.is("nothing: element", x.element(5, 0), LONG_BAD);
        due.is("shelf 6: element", x.element(6, 0), LONG_BAD);
        due.is("no such body", x.keep(5, 0), BAD);
        x.body(3);
        due.is("keep", x.keep(5, 0), 1);
        due.is("a pace: put", x.put(5, 0, 1), -12);
        due.is("-12 ahead of -13", x.put(5, -1, 1), -12);
        due.is("a pace: element", x.element(5, 0), LONG_BAD);
        due.is("body -2", x.keep(5, -2), BAD);
        due.is("body 1", x.keep(5, 1), BAD);
        due.is("shelf 6: keep", x.keep(6, 0), BAD);
        due.is("shelf -1: keep", x.keep(-1, -1), BAD);
        due.is("nothing again", x.keep(5, -1), 1);
        due.is("is nothing", x.taken(5, 0), -11);
        due.is("a row instead of a pace", x.keep(5, 0) + x.row(5, 0, 2) + x.put(5, 1, 3), 3);
        due.is("a pace instead of a row", x.keep(5, 0) + x.put(5, 1, 3), -11);
    }

    private void shift() {
        x = new PaneAcross();
        bytes(0, 1, 2, 3, 4, 5);
        due.is("onto itself, up", x.shift(0, 0, 0, 1, 4), 4);
        for (int i = 0; i < 5; i++) due.is("up " + i, x.element(0, i), i == 0 ? 1 : i);
        bytes(0, 1, 2, 3, 4, 5);
        due.is("onto itself, down", x.shift(0, 1, 0, 0, 4), 4);
        for (int i = 0; i < 5; i++) due.is("down " + i, x.element(0, i), i == 4 ? 5 : i + 2);
        x.row(1, 0, 3);
        due.is("onto another", x.shift(0, 2, 1, 0, 3), 3);
        due.is("4", x.element(1, 0), 4);
        due.is("5", x.element(1, 2), 5);
        due.is("none, at the ends", x.shift(0, 5, 1, 3, 0), 0);
        due.is("none, behind the end", x.shift(0, 6, 1, 0, 0), -13);
        due.is("none, behind the other's end", x.shift(0, 0, 1, 4, 0), -13);
        due.is("too many", x.shift(0, 3, 1, 0, 3), -13);
        due.is("too many for the other", x.shift(0, 0, 1, 1, 3), -13);
        due.is("n -1", x.shift(0, 0, 1, 0, -1), -13);
        due.is("i -1", x.shift(0, -1, 1, 0, 1), -13);
        due.is("j -1", x.shift(0, 0, 1, -1, 1), -13);
        due.is("it would wrap", x.shift(0, 1, 1, 1, Integer.MAX_VALUE), -13);
        due.is("i would wrap", x.shift(0, Integer.MAX_VALUE, 1, 1, 1), -13);
        x.row(2, 1, 3);
        due.is("unlike sorts", x.shift(0, 0, 2, 0, 1), -12);
        due.is("-12 ahead of -13", x.shift(0, 9, 2, 0, 1), -12);
        due.is("nothing there", x.shift(0, 0, 3, 0, 1), -11);
        due.is("nothing here", x.shift(3, 0, 0, 0, 1), -11);
        x.body(0);
        x.keep(4, 0);
        due.is("onto a pace", x.shift(0, 0, 4, 0, 1), -12);
        due.is("from a pace", x.shift(4, 0, 0, 0, 1), -12);
        due.is("from a pace to a pace", x.shift(4, 0, 4, 0, 0), -12);
        due.is("-11 ahead of -12", x.shift(4, 0, 3, 0, 1), -11);
        due.is("shelf 6", x.shift(6, 0, 0, 0, 1), BAD);
        due.is("other 6", x.shift(0, 0, 6, 0, 1), BAD);
        due.is("shelf -1", x.shift(-1, 0, 0, 0, 1), BAD);
        due.is("BAD ahead of -11", x.shift(3, 0, -1, 0, 1), BAD);
        due.is("all as they were", x.element(1, 1), 5);
    }

    private void taken() {
        int[] above = {-1, 0, 0, 2, 1, 3, 0, 4};
        x = new PaneAcross();
        for (int kind = 0; kind < 8; kind++) {
            x.body(kind);
            x.keep(0, kind);
            for (int k = 0; k < 8; k++) {
                boolean isUnder = false;
                for (int up = kind; up >= 0; up = above[up]) isUnder |= up == k;
                due.is("kind " + kind + " as " + k, x.taken(0, k), isUnder ? kind : -12);
            }
        }
        due.is("kind 8", x.taken(0, 8), BAD);
        due.is("kind -1", x.taken(0, -1), BAD);
        due.is("shelf 6", x.taken(6, 0), BAD);
        due.is("nothing", x.taken(1, 0), -11);
        due.is("BAD ahead of -11", x.taken(1, 8), BAD);
        x.row(1, 0, 0);
        due.is("a row", x.taken(1, 0), -12);
    }

    private void count() {
        street(1, 2, 3);
        x.feed('w');
        x.mend(0, GUST, 9);
        x.body(0);
        x.act(0, 1, 1);
        int[] want = {3, 1, 1, 1, 2};
        for (int what = 0; what < 5; what++) due.is("count " + what, x.count(what), want[what]);
        due.is("count 5", x.count(5), BAD);
        due.is("count -1", x.count(-1), BAD);
        x.undo();
        due.is("undone", x.count(2), 0);
    }

    /** BAD, -11, -12, STATE, by all calls that take a ROW's walk. */
    private void refusalsInOrder() {
        x = new PaneAcross();
        x.row(1, 2, 5);
        x.row(2, 0, 5);
        long[][] want = {{BAD, BAD}, {-11, BAD}, {-12, BAD}, {STATE, BAD}};
        int[] shelves = {6, 0, 1, 2};
        for (int i = 0; i < 4; i++) {
            int s = shelves[i];
            due.is("walk", x.walk(s, 0, 0), want[i][0]);
            due.is("walk, a wrong minute", x.walk(s, -1, 0), BAD);
            due.is("walk, a wrong what", x.walk(s, 0, 3), BAD);
            due.is("start", x.start(s, 0), want[i][0]);
            due.is("start, a wrong what", x.start(s, 2), BAD);
            due.is("menFor", x.menFor(s, 0), want[i][0]);
            due.is("menFor, a wrong minute", x.menFor(s, -1), BAD);
            due.is("van", x.van(s, 0), want[i][0]);
            due.is("van, a wrong minute", x.van(s, 1000), BAD);
            due.is("windFrom", x.windFrom(s, 0), want[i][0]);
            due.is("windFrom, a wrong minute", x.windFrom(s, 1000), BAD);
            due.is("scratchFor", x.scratchFor(s, 0), want[i][0]);
            due.is("scratchFor, a wrong minute", x.scratchFor(s, -1), BAD);
            due.is("judge", x.judge(s, 0), want[i][0]);
            due.is("judge, a wrong h", x.judge(s, 5), BAD);
            due.is("begun", x.begun(s, 0), i == 3 ? STATE : LONG_BAD);
            due.is("begun, a wrong h", x.begun(s, 4), LONG_BAD);
            due.is("cost", x.cost(s, 0, 0), i == 3 ? STATE : LONG_BAD);
            due.is("cost, a wrong part", x.cost(s, 0, 2), LONG_BAD);
        }
        due.is("soonest", x.soonest(0), STATE);
        due.is("soonest, a wrong minute", x.soonest(1000), BAD);
        due.is("safest", x.safest(0, 0), STATE);
        due.is("safest, a wrong n", x.safest(0, 61), BAD);
        due.is("drawn", x.drawn(0, 10, 0), STATE);
        due.is("drawn, a wrong n", x.drawn(0, 0, 0), BAD);
        x.body(0);
        x.keep(0, 0);
        due.is("a pace is no row", x.walk(0, 0, 0), -12);
    }
}
