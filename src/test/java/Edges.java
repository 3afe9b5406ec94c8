/** What the tests of the document's edges share: the answers' names, and a street, a row, a text in a line each. */
abstract class Edges {
    static final int BAD = -1, NOT = -2, FULL = -3, STATE = -5, VOID = -2000000000;
    static final int NOTHING = -11, OTHER = -12, NO_PLACE = -13, BELOW_0 = -14;
    static final long LONG_BAD = Long.MIN_VALUE;
    static final int GUST = 0, CALM = 1, EVERY = 2, LASTS = 3, KERB = 4, PEOPLE = 5, NARROW = 6;
    static final int MEN = 7, STRENGTH = 8, SCRATCH = 9, PANE = 10;
    static final int[] WILD = {Integer.MIN_VALUE, Integer.MIN_VALUE + 1, -1000, -10, Integer.MAX_VALUE - 1, Integer.MAX_VALUE};

    final Due due;
    PaneAcross x = new PaneAcross();

    Edges(String test) {
        due = new Due(test);
    }

    /** The words that the answers below are about, as the document has them (QuotesTest looks them up). */
    void sentence(String quoted) {
        due.about(quoted);
    }

    void is(String what, long got, long want) {
        due.is(what, got, want);
    }

    void anew() {
        x = new PaneAcross();
    }

    /** A new object with PLACES of such GUSTS, PEOPLE 0. */
    void street(int... gusts) {
        anew();
        for (int gust : gusts) x.place(gust, 0);
    }

    /** As street(), with GUST in every minute: LASTS is above EVERY. */
    void windyStreet(int... gusts) {
        street(gusts);
        for (int p = 0; p < gusts.length; p++) x.mend(p, LASTS, 60);
    }

    /** A new object with calm PLACES of such PEOPLE. */
    void people(int... people) {
        anew();
        for (int p : people) x.place(0, p);
    }

    void blows(int place, int every, int lasts) {
        x.mend(place, EVERY, every);
        x.mend(place, LASTS, lasts);
    }

    void strength(int v) {
        x.mend(0, STRENGTH, v);
    }

    void bytes(int shelf, int... values) {
        row(shelf, 0, values);
    }

    void row(int shelf, int sort, int... values) {
        is("row", x.row(shelf, sort, values.length), 1);
        for (int i = 0; i < values.length; i++) is("put", x.put(shelf, i, values[i]), 1);
    }

    int law(String text) {
        for (int i = 0; i < text.length(); i++) x.feed(text.charAt(i));
        return x.law();
    }

    void led(int... want) {
        for (int what = 0; what < want.length; what++) is("led " + what, x.led(what), want[what]);
    }

    void fraction(String what, long above, long gotAbove, long below, long gotBelow) {
        is(what + ", above", gotAbove, above);
        is(what + ", below", gotBelow, below);
    }
}
