import java.util.ArrayList;
import java.util.List;

/** The KINDS once more, as the host's own classes: what comes from above is the host's to say. */
final class SlowActs {
    private SlowActs() {
    }

    static final List<Integer> ran = new ArrayList<>();

    private static void note(int body) {
        ran.add(body);
    }

    interface Goes {
        int number();

        default int goes(int x) {
            note(1);
            return x + number();
        }
    }

    interface Tells {
        int strains(int x);

        int leans(int x);

        default int tells(int x) {
            note(2);
            return strains(x) - leans(1);
        }
    }

    static class Pace implements Goes, Tells {
        int number;
        int kind;

        public int number() {
            return number;
        }

        public int strains(int x) {
            note(10);
            return goes(x) * 2;
        }

        public int leans(int x) {
            note(11);
            return x ^ number;
        }
    }

    static class Edge extends Pace {
        public int goes(int x) {
            note(20);
            return super.goes(x) + 3;
        }
    }

    static class Flat extends Pace {
        public int strains(int x) {
            note(30);
            return -super.strains(x);
        }
    }

    static class Gust extends Flat {
        public int leans(int x) {
            note(40);
            return super.leans(x) * 3;
        }

        public int strains(int x) {
            note(41);
            return super.strains(x + 1);
        }
    }

    static class Kerb extends Edge {
        public int leans(int x) {
            note(50);
            return super.leans(x) - goes(2);
        }
    }

    static class Crack extends Gust {
        public int tells(int x) {
            note(60);
            return super.tells(x) ^ 5;
        }
    }

    static class Rest extends Pace {
        public int goes(int x) {
            note(70);
            return super.goes(x) * 2;
        }
    }

    static class Hoop extends Kerb {
        public int strains(int x) {
            note(80);
            return super.strains(x) + leans(2);
        }

        public int tells(int x) {
            note(81);
            return super.tells(x) - 1;
        }
    }

    static Pace made(int kind, int number) {
        Pace pace;
        switch (kind) {
            case 0: pace = new Pace(); break;
            case 1: pace = new Edge(); break;
            case 2: pace = new Flat(); break;
            case 3: pace = new Gust(); break;
            case 4: pace = new Kerb(); break;
            case 5: pace = new Crack(); break;
            case 6: pace = new Rest(); break;
            default: pace = new Hoop(); break;
        }
        pace.kind = kind;
        pace.number = number;
        return pace;
    }

    static Class<?> classOf(int kind) {
        return made(kind, 0).getClass();
    }

    static int act(Pace pace, int act, int x) {
        switch (act) {
            case 0: return pace.goes(x);
            case 1: return pace.strains(x);
            case 2: return pace.leans(x);
            default: return pace.tells(x);
        }
    }
}
