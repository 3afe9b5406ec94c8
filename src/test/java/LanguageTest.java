import java.io.IOException;
import java.lang.reflect.Constructor;
import java.lang.reflect.Field;
import java.lang.reflect.Method;
import java.lang.reflect.Modifier;
import java.nio.file.Files;
import java.nio.file.Path;
import java.util.Arrays;
import java.util.Set;
import java.util.TreeSet;
import java.util.regex.Matcher;
import java.util.regex.Pattern;

/** The document's face, and those rules of LANGUAGE.md that a look at the class and its source can tell. */
public final class LanguageTest {
    private static final String[] FACE = {
        "int place(int,int)", "int places(int,int,int)", "int mend(int,int,int)", "int of(int,int)", "int wind(int,int)",
        "int feed(int)", "int law()", "int strain(int,int)", "int walk(int,int,int)", "int start(int,int)",
        "long hold(int,int)", "int soonest(int)", "int safest(int,int)", "int menFor(int,int)", "int van(int,int)",
        "int windFrom(int,int)", "int scratchFor(int,int)", "long free(int)", "long watch(int)", "long earlier(int,int)",
        "long cost(int,int,int)", "long begun(int,int)", "int judge(int,int)", "int drawn(int,int,int)", "int out(int,int)",
        "int pace(int)", "int rest(int)", "int led(int)", "int image()", "int back()", "int undo()", "int redo()",
        "int body(int)", "int act(int,int,int)", "int trace(int)", "int keep(int,int)", "int row(int,int,int)",
        "int put(int,int,long)", "long element(int,int)", "int shift(int,int,int,int,int)", "int taken(int,int)",
        "int count(int)",
    };
    private static final String[] NOT_USED = {
        "throw", "throws", "try", "catch", "finally", "synchronized", "assert", "new Object", "Object", "equals",
        "hashCode", "toString", "var", "native", "transient", "volatile", "strictfp", "double", "float", "System.out",
        "Exact", "record", "goto", "Thread", "Random", "Scanner",
    };
    private static final int MOST_LINES = 60, MOST_CLASSES = 12, MOST_FIELDS = 20, MOST_PARAMETERS = 7;

    private final Due due = new Due("LanguageTest");

    private LanguageTest() {
    }

    public static void main(String[] args) throws IOException {
        LanguageTest test = new LanguageTest();
        test.face();
        test.constants();
        test.classes();
        String told = System.getenv("PANE_SOURCE");
        Path source = Path.of(told == null ? "src/main/java/PaneAcross.java" : told);
        test.source(Files.readString(source));
        test.due.end();
    }

    private void face() {
        Set<String> want = new TreeSet<>(Arrays.asList(FACE)), got = new TreeSet<>();
        for (Method m : PaneAcross.class.getDeclaredMethods()) {
            if (m.isSynthetic()) continue;
            if (Modifier.isPublic(m.getModifiers())) got.add(told(m));
            else due.isTrue(m + " is private", Modifier.isPrivate(m.getModifiers()));
        }
        due.isTrue("the face is the document's: " + got, got.equals(want));
        Constructor<?>[] made = PaneAcross.class.getDeclaredConstructors();
        due.isTrue("one public constructor", made.length == 1 && Modifier.isPublic(made[0].getModifiers()));
        due.isTrue("public and final", PaneAcross.class.getModifiers() == (Modifier.PUBLIC | Modifier.FINAL));
    }

    private static String told(Method m) {
        StringBuilder text = new StringBuilder(m.getReturnType() + " " + m.getName() + "(");
        for (Class<?> type : m.getParameterTypes()) text.append(text.charAt(text.length() - 1) == '(' ? "" : ",").append(type);
        return text.append(")").toString();
    }

    private void constants() {
        due.is("BAD", PaneAcross.BAD, -1);
        due.is("NOT", PaneAcross.NOT, -2);
        due.is("FULL", PaneAcross.FULL, -3);
        due.is("STATE", PaneAcross.STATE, -5);
        due.is("VOID", PaneAcross.VOID, -2000000000);
        Set<String> got = new TreeSet<>();
        for (Field f : PaneAcross.class.getDeclaredFields()) {
            if (!Modifier.isPrivate(f.getModifiers())) got.add(f.getName() + " " + f.getType() + " " + f.getModifiers());
        }
        int flags = Modifier.PUBLIC | Modifier.STATIC | Modifier.FINAL;
        Set<String> want = new TreeSet<>();
        for (String name : "BAD NOT FULL STATE VOID".split(" ")) want.add(name + " int " + flags);
        due.isTrue("the constants are the document's: " + got, got.equals(want));
    }

    private void classes() {
        Class<?>[] inside = PaneAcross.class.getDeclaredClasses();
        Set<String> face = new TreeSet<>();
        for (String line : FACE) face.add(line.replaceAll("^\\w+ (\\w+).*", "$1"));
        due.isTrue("classes are few", inside.length + 1 <= MOST_CLASSES);
        for (Class<?> c : inside) {
            due.isTrue(c + " is static and not public", Modifier.isStatic(c.getModifiers()) && !Modifier.isPublic(c.getModifiers()));
            for (Method m : c.getDeclaredMethods()) due.isTrue(m + " bears a name of its own", !face.contains(m.getName()));
            asked(c);
        }
        for (Method m : PaneAcross.class.getDeclaredMethods()) {
            if (!Modifier.isPublic(m.getModifiers())) due.isTrue(m + " bears a name of its own", !face.contains(m.getName()));
        }
        asked(PaneAcross.class);
    }

    private void asked(Class<?> c) {
        int fields = 0;
        for (Field f : c.getDeclaredFields()) {
            if (Modifier.isStatic(f.getModifiers())) due.isTrue(f + " is final", Modifier.isFinal(f.getModifiers()));
            else fields++;
        }
        due.isTrue(c + " has few fields: " + fields, fields <= MOST_FIELDS);
        for (Method m : c.getDeclaredMethods()) due.isTrue(m + " takes few", m.getParameterCount() <= MOST_PARAMETERS);
    }

    private void source(String text) {
        for (int i = 0; i < text.length(); i++) {
            char c = text.charAt(i);
            if (c > 126 || c < 32 && c != '\n') due.is("sign at " + i, c, ' ');
        }
        String bare = text.replaceAll("(?s)/\\*.*?\\*/", "").replaceAll("//[^\n]*", "").replaceAll("'(\\\\.|[^'])'", "0");
        for (String word : NOT_USED) {
            due.isTrue("no " + word, !Pattern.compile("\\b" + Pattern.quote(word) + "\\b").matcher(bare).find());
        }
        for (String sign : new String[] {"->", "::", "@", "\"", "package "}) due.isTrue("no " + sign, !bare.contains(sign));
        due.isTrue("no static block", !Pattern.compile("static\\s*\\{").matcher(bare).find());
        Matcher imports = Pattern.compile("import ([^;]+);").matcher(bare);
        while (imports.find()) due.isTrue(imports.group(1), imports.group(1).equals("java.util.Arrays"));
        Matcher calls = Pattern.compile("\\b([A-Z]\\w*)\\.(\\w+)\\(").matcher(bare);
        while (calls.find()) {
            String call = calls.group(1) + "." + calls.group(2);
            boolean isOwn = call.startsWith("Chances.") || call.startsWith("Paces.");
            due.isTrue(call, isOwn || call.matches("(Math\\.(min|max)|Arrays\\.fill|System\\.arraycopy)"));
        }
        lengths(bare);
    }

    /** A method begins with a line that ends in ") {" at four or eight blanks and ends with a brace below it. */
    private void lengths(String bare) {
        String[] lines = bare.split("\n");
        for (int i = 0; i < lines.length; i++) {
            Matcher begin = Pattern.compile("^( {4}| {8})[a-z].*\\) \\{$").matcher(lines[i]);
            if (!begin.find() || lines[i].trim().startsWith("for ") || lines[i].trim().startsWith("if ")) continue;
            int end = i;
            while (end < lines.length && !lines[end].equals(begin.group(1) + "}")) end++;
            due.isTrue("short: " + lines[i].trim(), end - i <= MOST_LINES);
        }
    }
}
