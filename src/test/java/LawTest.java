import java.util.Random;

/** Drawn texts, sound ones and ones with a byte changed: their FAULTS, and the STRAINS that they give. */
public final class LawTest {
    private static final int TEXTS = 40000;
    private static final String BYTES = "whmksp0123456789+-*/%<=>|&!()?;!-((";

    private final Random random = new Random(7);

    public static void main(String[] args) {
        Due due = new Due("LawTest");
        LawTest test = new LawTest();
        for (int i = 0; i < TEXTS && due.wrong() < 5; i++) test.tryText(due, test.changed(test.text()));
        due.end();
    }

    private String text() {
        StringBuilder text = new StringBuilder();
        int lines = 1 + random.nextInt(3);
        for (int i = 0; i < lines; i++) {
            if (i > 0) text.append(';');
            if (random.nextBoolean()) text.append(expression(0, 0)).append('?');
            text.append(expression(0, 0));
        }
        return text.length() <= 120 ? text.toString() : text.substring(0, 120);
    }

    private String expression(int level, int open) {
        String[] signs = {"|", "&", "<=>", "+-", "*/%"};
        if (level == 5) return operand(open);
        StringBuilder text = new StringBuilder(expression(level + 1, open));
        for (int n = 0; n < 2 && random.nextInt(4 + open) == 0; n++) {
            text.append(signs[level].charAt(random.nextInt(signs[level].length()))).append(expression(level + 1, open));
            if (level == 2) break;
        }
        return text.toString();
    }

    private String operand(int open) {
        // One more than may be open comes now and then, too.
        int chance = open > 6 ? 0 : random.nextInt(8);
        if (chance == 5) return "!" + operand(open + 1);
        if (chance == 6) return "-" + operand(open + 1);
        if (chance == 7 || open > 2 && chance > 2) return "(" + expression(0, open + 1) + ")";
        if (chance == 4) return String.valueOf(random.nextInt(random.nextInt(9) == 0 ? 20000 : 30));
        return String.valueOf("whmksp".charAt(random.nextInt(6)));
    }

    private String changed(String text) {
        if (random.nextBoolean()) return text;
        int at = random.nextInt(text.length() + 1);
        char c = random.nextInt(20) == 0 ? (char) random.nextInt(256) : BYTES.charAt(random.nextInt(BYTES.length()));
        switch (random.nextInt(4)) {
            case 0: return text.substring(0, at);
            case 1: return at < text.length() ? text.substring(0, at) + text.substring(at + 1) : text;
            case 2: return at < text.length() ? text.substring(0, at) + c + text.substring(at + 1) : text;
            default: return text.length() < 120 ? text.substring(0, at) + c + text.substring(at) : text;
        }
    }

    private void tryText(Due due, String text) {
        PaneAcross pane = new PaneAcross();
        for (int i = 0; i < text.length(); i++) due.is("feed", pane.feed(text.charAt(i)), i + 1);
        int fault = SlowLaw.fault(text);
        due.is("law of " + text, pane.law(), fault < 0 ? 1 : -100 - fault);
        due.is("the tape behind " + text, pane.count(1), 0);
        if (fault >= 0) return;
        for (int i = 0; i < 4; i++) {
            int w = random.nextInt(31), h = random.nextInt(4), m = 1 + random.nextInt(6);
            int k = random.nextInt(10), s = random.nextInt(100), p = pane.place(w, 0);
            pane.mend(p, 4, k);
            pane.mend(0, 7, m);
            pane.mend(0, 9, s);
            int worth = SlowLaw.worth(text, w, h, m, k, s, p);
            due.is("strain by " + text, pane.strain(10 * p + h, 0), Math.max(0, Math.min(99, worth)));
        }
    }
}
