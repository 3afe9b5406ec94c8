/** Each sentence on THE TAPE, THE LAW and STRAIN that names an edge, by a test of its own: Terms 1, promises 7 to 9. */
public final class EdgesOfLawTest extends Edges {
    private static final String NAMES = "whmksp";

    private EdgesOfLawTest() {
        super("EdgesOfLawTest");
    }

    public static void main(String[] args) {
        EdgesOfLawTest test = new EdgesOfLawTest();
        test.waysHeld();
        test.tapeOf120();
        test.lines();
        test.askedLines();
        test.looseToTight();
        test.oneComparison();
        test.digits();
        test.everySingleByte();
        test.noBlanks();
        test.names();
        test.sixOpen();
        test.wraps();
        test.towardZero();
        test.oneOrZero();
        test.allIsWorkedOut();
        test.whichLineCounts();
        test.faultsPlaces();
        test.heldWithin();
        test.withoutText();
        test.feedAnswers();
        test.lawAnswers();
        test.strainAnswers();
        test.due.end();
    }

    /** A text that is told, and what it gives in PLACE 3 in a minute of WIND 20, HELD as 2, MEN 3, KERB 5, SCRATCH 7. */
    private void gives(String text, int want) {
        street(0, 0, 0, 20);
        x.mend(0, MEN, 3);
        x.mend(3, KERB, 5);
        x.mend(0, SCRATCH, 7);
        is("law of " + text, law(text), 1);
        is(text, x.strain(32, 0), want);
    }

    private void faults(String text, int place) {
        anew();
        is("law of " + text, law(text), -100 - place);
    }

    private void isText(String text) {
        anew();
        is("law of " + text, law(text), 1);
    }

    private void waysHeld() {
        sentence("HELD as 0 (edge on) .. 3 (flat)");
        street(8, 8);
        int[] strains = {2, 4, 8, 12};
        for (int h = 0; h <= 3; h++) is("HELD as " + h, x.strain(h, 0), strains[h]);
        is("4 is no way", x.strain(4, 0), BAD);
        is("-1 is no way", x.strain(-1, 0), BAD);
        is("not to set out", x.out(0, 4), BAD);
        is("nor", x.out(0, -1), BAD);
        is("flat", x.out(0, 3), 1);
        is("not to pace", x.pace(4), BAD);
        is("nor", x.pace(-1), BAD);
        is("not to rest", x.rest(4), BAD);
        is("nor", x.rest(-1), BAD);
        is("not to draw", x.drawn(1, 14, 0), BAD);
        x.row(0, 0, 0);
        is("not to have begun", x.begun(0, 4), LONG_BAD);
        is("nor", x.begun(0, -1), LONG_BAD);
        is("not to judge", x.judge(0, 4), BAD);
    }

    private void tapeOf120() {
        sentence("THE TAPE (at most 120 bytes)");
        street(0);
        StringBuilder text = new StringBuilder("11");
        while (text.length() < 120) text.append("+1");
        is("120 bytes are a text", law(text.toString()), 1);
        is("eleven and 59 ones", x.strain(0, 0), 70);
        for (int i = 0; i < 120; i++) is("byte " + i, x.feed('1'), i + 1);
        is("one more", x.feed('1'), FULL);
        is("120", x.count(1), 120);
        is("its fifth byte", x.law(), -104);
        StringBuilder early = new StringBuilder("1");
        while (early.length() < 119) early.append("+1");
        is("120 that end too early", law(early.append('+').toString()), -220);
        StringBuilder many = new StringBuilder("7");
        while (many.length() < 119) many.append(";7");
        is("sixty lines", law(many.toString()), 1);
        is("the first of them", x.strain(0, 0), 7);
    }

    private void lines() {
        sentence("LINES, one or more, parted by ;");
        faults("", 0);
        faults(";", 0);
        faults(";w", 0);
        faults("w;", 2);
        faults("w;;h", 2);
        faults("(w;h)", 2);
        gives("w", 20);
        gives("w;h", 20);
        gives("0?1;0?2;h", 2);
        StringBuilder many = new StringBuilder();
        for (int i = 0; i < 29; i++) many.append("0?1;");
        gives(many.append("77").toString(), 77);
    }

    private void askedLines() {
        sentence("LINE: E, or E ? E (what counts if the first is not 0)");
        gives("1?7", 7);
        gives("-1?7", 7);
        gives("2?7", 7);
        gives("0?7", 0);
        gives("!h?7;8", 8);
        gives("h?7;8", 7);
        gives("w<h|h<m?w-h;8", 18);
        faults("?w", 0);
        faults("w?", 2);
        faults("w??h", 2);
        faults("w?h?k", 3);
        faults("w;k?h?m", 5);
        faults("(w?h)", 2);
        faults("w?;h", 2);
    }

    private void looseToTight() {
        sentence("E = A { | A }. A = B { & B }.");
        gives("1|0&0", 1);
        gives("0&0|1", 1);
        gives("(1|0)&0", 0);
        gives("0|0|2", 1);
        gives("1&1&0", 0);
        faults("w|", 2);
        faults("w&", 2);
        faults("w||h", 2);
        faults("w&&h", 2);
        faults("|w", 0);
        faults("&w", 0);
        sentence("S = P { + P, - P }. P = O { * O, / O, % O }.");
        gives("2+3*4", 14);
        gives("(2+3)*4", 20);
        gives("20-3-4", 13);
        gives("20-(3-4)", 21);
        gives("24/4/2", 3);
        gives("24/(4/2)", 12);
        gives("17%10%4", 3);
        gives("7/2*2", 6);
        gives("2*7/4", 3);
        gives("9-8/2", 5);
        gives("9+8%5", 12);
        gives("1+1=2", 1);
        gives("1=1&2=2", 1);
        gives("3&2<1", 0);
        gives("-2+5", 3);
        gives("!2+5", 5);
        gives("-2*-3", 6);
        gives("!0*9", 9);
        faults("w+", 2);
        faults("+w", 0);
        faults("w+*h", 2);
        faults("*w", 0);
        faults("w/%h", 2);
    }

    private void oneComparison() {
        sentence("B = S, or S < S, S = S, S > S.");
        String signs = "<=>";
        for (int i = 0; i < 9; i++) {
            char a = signs.charAt(i / 3), b = signs.charAt(i % 3);
            faults("w" + a + "h" + b + "k", 3);
            faults("w" + a + b + "h", 2);
            isText("(w" + a + "h)" + b + "k");
            isText("w" + a + "(h" + b + "k)");
            isText("w" + a + "h|k" + b + "m");
            isText("w" + a + "h&k" + b + "m");
            isText("w" + a + "h?k" + b + "m");
            isText("w" + a + "h;k" + b + "m");
            faults("w" + a + "h+m" + b + "k", 5);
        }
        faults("w<", 2);
        faults("<w", 0);
    }

    private void digits() {
        sentence("a number (1 to 4 digits)");
        gives("0", 0);
        gives("9", 9);
        gives("99", 99);
        gives("999-989", 10);
        gives("9999-9988", 11);
        gives("0007", 7);
        gives("1000-999", 1);
        faults("10000", 4);
        faults("00000", 4);
        faults("w+12345", 6);
        faults("123456", 4);
        faults("1w", 1);
        faults("1 2", 1);
    }

    private void everySingleByte() {
        sentence("O = a number (1 to 4 digits), a NAME, ! O, - O, ( E ).");
        for (int c = 0; c < 256; c++) {
            anew();
            x.feed(c);
            boolean whole = c < 128 && (NAMES.indexOf(c) >= 0 || c >= '0' && c <= '9');
            boolean early = c == '!' || c == '-' || c == '(';
            is("law of byte " + c, x.law(), whole ? 1 : early ? -101 : -100);
            x.feed('w');
            x.feed(c);
            boolean goesOn = c != 0 && c < 128 && "|&<=>+-*/%?;".indexOf(c) >= 0;
            is("law of w and byte " + c, x.law(), goesOn ? -102 : -101);
        }
        gives("!(h)", 0);
        gives("-(h)+9", 7);
        gives("((h))", 2);
        faults("()", 1);
        faults("(h", 2);
        faults("h)", 1);
        faults("(h))", 3);
        faults("(h(", 2);
        faults("h(w)", 1);
        faults("(w)h", 3);
    }

    private void noBlanks() {
        sentence("No blanks.");
        faults(" w", 0);
        faults("w ", 1);
        faults("w +h", 1);
        faults("w+ h", 2);
        faults("w; h", 2);
        faults("w\n", 1);
        faults("w\t", 1);
    }

    private void names() {
        sentence("NAMES: w WIND, h how it is HELD, m MEN, k KERB, s SCRATCH, p the PLACE.");
        gives("w", 20);
        gives("h", 2);
        gives("m", 3);
        gives("k", 5);
        gives("s", 7);
        gives("p", 3);
        street(30);
        x.mend(0, CALM, 11);
        law("w");
        is("GUST", x.strain(0, 1), 30);
        is("CALM", x.strain(0, 2), 11);
        for (int p = 1; p < 12; p++) x.place(0, 0);
        law("p");
        is("PLACE 0", x.strain(0, 0), 0);
        is("PLACE 11", x.strain(110, 0), 11);
        law("h");
        is("edge on", x.strain(110, 0), 0);
        is("flat", x.strain(113, 0), 3);
    }

    private void sixOpen() {
        sentence("At most 6 of ( ! - ahead of an O are open at once.");
        String[] isSo = {
            "!!!!!!w", "------w", "((((((w))))))", "(!(-(!w)))", "!-!-!-w", "((((((w)))))+!w)", "!!!!!!w+!!!!!!h",
            "(((((!w)))))+(((((-w)))))", "((((((w))))))-((((((h))))))", "!(!(!(w)))", "w-------h", "(((((w+!h)))))",
        };
        for (String text : isSo) isText(text);
        faults("!!!!!!!w", 6);
        faults("-------w", 6);
        faults("(((((((w", 6);
        faults("!-!-!-(w", 6);
        faults("(!(-(!!w", 6);
        faults("((((((w+!h", 8);
        faults("((((((w+h*-k", 10);
        faults("((((((w)+!!h", 10);
        faults("w--------h", 8);
        faults("!!!!!!w+!!!!!!!h", 14);
        faults("w;!!!!!!!h", 8);
        faults("w?-------h", 8);
        faults("!!!!!!)", 6);
        faults("((((((", 6);
    }

    private void wraps() {
        sentence("Ints that wrap");
        gives("9999*9999*9999%100+70", 9999 * 9999 * 9999 % 100 + 70);
        gives("8192*8192*64+7", 7);
        gives("8192*8192*32<0", 1);
        gives("8192*8192*31+8192*8192<0", 1);
        gives("-(8192*8192*32)<0", 1);
        gives("0-8192*8192*32-1>0", 1);
        gives("0-8192*8192*32<0", 1);
        gives("-(8192*8192*32)-1=8192*8192*32-1", 1);
        gives("8192*8192*32/-1<0", 1);
        gives("8192*8192*32%-1+6", 6);
        // Compared as they are, not by a difference that would wrap.
        gives("8192*8192*32<1", 1);
        gives("8192*8192*32>1", 0);
        gives("8192*8192*32-1>-2", 1);
    }

    private void towardZero() {
        sentence("/ and % toward 0, by 0 they give 0");
        gives("7/2", 3);
        gives("-7/2+9", 6);
        gives("7/-2+9", 6);
        gives("-7/-2", 3);
        gives("7%2", 1);
        gives("-7%2+9", 8);
        gives("7%-2+9", 10);
        gives("-7%-2+9", 8);
        gives("7/0+5", 5);
        gives("7%0+5", 5);
        gives("0/0", 0);
        gives("0%0", 0);
        gives("w/(h-2)+4", 4);
        gives("w%(h-2)+4", 4);
        gives("1-1/2", 1);
    }

    private void oneOrZero() {
        sentence("| & < = > ! give 1, 0");
        gives("4|3", 1);
        gives("0|3", 1);
        gives("3|0", 1);
        gives("0|0", 0);
        gives("-1|0", 1);
        gives("4&3", 1);
        gives("4&0", 0);
        gives("0&4", 0);
        gives("0&0", 0);
        gives("-1&-2", 1);
        gives("2<3", 1);
        gives("3<3", 0);
        gives("4<3", 0);
        gives("2=3", 0);
        gives("3=3", 1);
        gives("4=3", 0);
        gives("2>3", 0);
        gives("3>3", 0);
        gives("4>3", 1);
        gives("-1<0", 1);
        gives("0>-1", 1);
        gives("!0", 1);
        gives("!1", 0);
        gives("!9", 0);
        gives("!-1", 0);
        gives("!!9", 1);
        // What is below 0 is held at 0, so the 0 itself is shown by what is added to it.
        for (String text : new String[] {"0|0", "4&0", "0&4", "3<3", "4<3", "2=3", "4=3", "3>3", "2>3"}) {
            gives("(" + text + ")+5", 5);
            gives("!(" + text + ")+5", 6);
        }
        for (String text : new String[] {"0|3", "3|0", "4&3", "2<3", "3=3", "4>3"}) gives("(" + text + ")*5", 5);
        gives("!9+5", 5);
    }

    private void allIsWorkedOut() {
        sentence("all is worked out");
        gives("1|7/0", 1);
        gives("0&7%0", 0);
        gives("1?2;7/0", 2);
        gives("0?7/0;3", 3);
        gives("(1|0/0)+(0&0%0)*9", 1);
        gives("0?9;(0&5)+4", 4);
    }

    private void whichLineCounts() {
        sentence("The first LINE without a first E, or whose first E is not 0, counts; none: 0.");
        gives("3;4", 3);
        gives("0;4", 0);
        gives("0?1;0?2;3;4", 3);
        gives("0?1;1?2;3", 2);
        gives("1?0;5", 0);
        gives("0?1;-1?0;5", 0);
        gives("0?1", 0);
        gives("0?1;0?2", 0);
        gives("0?1;0?2;0?3", 0);
        gives("0?9;h=2?8;h=2?7;6", 8);
        street(8);
        is("a long text", law("0?1;0?2;0?3;77"), 1);
        is("its last line", x.strain(0, 0), 77);
        is("a shorter one behind it", law("0?1"), 1);
        is("none of its lines, and none of the other's", x.strain(0, 0), 0);
        is("one that is as long as the beginning", law("0?1;0?2"), 1);
        is("none", x.strain(0, 0), 0);
    }

    private void faultsPlaces() {
        sentence("the place (from 0) of the first byte with which no TEXT goes on; the length, if it ends too early.");
        Object[][] texts = {
            {"", 0}, {"x", 0}, {"wx", 1}, {"w+x", 2}, {"xx", 0}, {"w)(", 1}, {"w+(h", 4}, {"w+(h*", 5}, {"!", 1},
            {"-", 1}, {"(", 1}, {"w<h=", 3}, {"w?h;", 4}, {"w?h;k?", 6}, {"w h x", 1}, {"12345x", 4}, {"(w;", 2},
            {"(w?", 2}, {"w.", 1}, {"W", 0}, {"H", 0}, {"w=>h", 2}, {"w!h", 1}, {"w-", 2}, {"w-!", 3}, {"a+b", 0},
            {"w+a;x", 2}, {"((((((w)))))", 12}, {"((((((w)))))))", 13},
        };
        for (Object[] row : texts) faults((String) row[0], (Integer) row[1]);
    }

    private void heldWithin() {
        sentence("It gives the STRAIN of a minute there (held within 0 .. 99).");
        gives("0", 0);
        gives("0-1", 0);
        gives("-9999", 0);
        gives("1", 1);
        gives("98", 98);
        gives("99", 99);
        gives("100", 99);
        gives("9999*9999", 99);
        gives("8192*8192*32", 0);
        gives("8192*8192*32-1", 99);
    }

    private void withoutText() {
        sentence("Without a text: w times h by m (cut), and k, and w by 4 (cut), if h is 0.");
        withoutText(7, 0, 2, 0, 1);
        withoutText(3, 0, 2, 0, 0);
        withoutText(4, 0, 2, 0, 1);
        withoutText(30, 0, 1, 9, 16);
        withoutText(7, 1, 2, 0, 3);
        withoutText(8, 1, 6, 0, 1);
        withoutText(8, 1, 1, 0, 8);
        withoutText(7, 3, 2, 0, 10);
        withoutText(5, 3, 4, 0, 3);
        withoutText(5, 3, 4, 2, 5);
        withoutText(0, 0, 1, 9, 9);
        withoutText(0, 3, 1, 9, 9);
        withoutText(0, 3, 1, 0, 0);
        withoutText(30, 3, 1, 9, 99);
        withoutText(30, 3, 6, 9, 24);
        x.mend(0, SCRATCH, 99);
        is("no matter how much it is scratched", x.strain(3, 0), 24);
    }

    private void withoutText(int wind, int h, int men, int kerb, int want) {
        street(wind);
        x.mend(0, MEN, men);
        x.mend(0, KERB, kerb);
        is("WIND " + wind + " HELD " + h + " MEN " + men + " KERB " + kerb, x.strain(h, 0), want);
    }

    private void feedAnswers() {
        sentence("A byte (0 .. 255) comes to THE TAPE: how many it has. BAD, FULL (120).");
        anew();
        is("-1", x.feed(-1), BAD);
        is("256", x.feed(256), BAD);
        for (int letter : WILD) is("far out", x.feed(letter), BAD);
        is("none came", x.count(1), 0);
        is("0", x.feed(0), 1);
        is("255", x.feed(255), 2);
        for (int i = 3; i <= 120; i++) is("the next", x.feed('w'), i);
        is("FULL", x.feed('w'), FULL);
        is("FULL for 0", x.feed(0), FULL);
        is("FULL for 255", x.feed(255), FULL);
        is("BAD is named first", x.feed(256), BAD);
        is("BAD is named first, too", x.feed(-1), BAD);
        is("120 still", x.count(1), 120);
        x.law();
        is("there is room again", x.feed('w'), 1);
    }

    private void lawAnswers() {
        sentence("THE TAPE becomes THE LAW: 1; -100 less its FAULT; THE TAPE is empty then.");
        street(8);
        is("an empty tape", x.law(), -100);
        is("no text still", x.strain(0, 0), 2);
        is("a text", law("w+1"), 1);
        is("the tape is empty", x.count(1), 0);
        is("by the text", x.strain(0, 0), 9);
        is("a fault at 1", law("w7"), -101);
        is("the tape is empty then, too", x.count(1), 0);
        is("the text ahead stays", x.strain(0, 0), 9);
        is("it ends at 4", law("w+2+"), -104);
        is("the text ahead stays", x.strain(0, 0), 9);
        is("empty again", x.law(), -100);
        is("the text ahead stays", x.strain(0, 0), 9);
        is("another text", law("w+2"), 1);
        is("by the other", x.strain(0, 0), 10);
        is("a shorter one", law("0"), 1);
        is("by the shorter", x.strain(0, 0), 0);
        is("a law is no change", x.count(2), 0);
    }

    private void strainAnswers() {
        sentence("The STRAIN of a minute in a PLACE, HELD as h (ph: 10 times the PLACE, and h). BAD.");
        street(8, 20);
        x.mend(1, KERB, 1);
        int[] strains = {2, 4, 8, 12, BAD, BAD, BAD, BAD, BAD, BAD, 6, 11, 21, 31, BAD, BAD, BAD, BAD, BAD, BAD, BAD};
        for (int ph = 0; ph < strains.length; ph++) is("ph " + ph, x.strain(ph, 0), strains[ph]);
        for (int ph = -1; ph >= -21; ph--) is("ph " + ph, x.strain(ph, 0), BAD);
        for (int ph : WILD) is("ph far out", x.strain(ph, 0), BAD);
        is("PLACE 11 is not there", x.strain(110, 0), BAD);
        is("minute 2 is calm", x.strain(13, 2), 1);
        is("minute 9991", x.strain(13, 9991), 31);
        is("minute 9999", x.strain(13, 9999), 1);
        is("minute -1", x.strain(13, -1), BAD);
        is("minute 10000", x.strain(13, 10000), BAD);
        for (int minute : WILD) is("minute far out", x.strain(13, minute), BAD);
        x.mend(0, NARROW, 0);
        is("a narrow PLACE strains, too", x.strain(3, 0), 12);
        x.mend(0, STRENGTH, 0);
        is("cracked or not", x.strain(3, 0), 12);
        for (int p = 2; p < 12; p++) x.place(12, 0);
        is("PLACE 11", x.strain(113, 0), 18);
        is("no PLACE 12", x.strain(120, 0), BAD);
    }
}
