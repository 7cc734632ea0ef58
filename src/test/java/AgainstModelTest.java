/** Many made-up runs, the same ones each time, on LeadBalls and on the Model: all answers must be alike. */
final class AgainstModelTest {
    private static final String[] WORDS = {"ball", "near", "far", "rod", "wire", "damp", "reads", "zero", "creep", "warm", "iron",
        "cause", "trial", "shows", "house", "says", "span", "cellar", "is", "prints", ";", "-", "(", ")", "+", "*", "/", "a", "b",
        "c", "0", "5", "1000", "12345", "abcdefghi", "7x", "$", "", "\n"};

    private final LeadBalls x = new LeadBalls();
    private final Model m = new Model();
    private long state;

    private AgainstModelTest(long seed) {
        state = seed * 7919 + 17;
    }

    public static void main(String[] args) {
        for (int seed = 0; seed < 1500; seed++) {
            new AgainstModelTest(seed).run();
        }
        Due.finish();
    }

    private int any(int below) {
        state = state * 6364136223846793005L + 1442695040888963407L;
        return (int) ((state >>> 33) % below);
    }

    private int from(int least, int most) {
        return least + any(most - least + 1);
    }

    private boolean rarely() {
        return any(30) == 0;
    }

    private void run() {
        for (int n = 0; n < 6; n++) {
            switch (any(4)) {
                case 0 -> readShed();
                case 1 -> readHouses();
                case 2 -> readSum();
                default -> readings();
            }
        }
    }

    private String pick(String... of) {
        return of[any(of.length)];
    }

    private String name() {
        return rarely() ? pick("ball", "prints", "toolongname", "abcdefgh") : String.valueOf((char) ('a' + any(9)));
    }

    private String spoiled(String text) {
        if (any(3) != 0 || text.isEmpty()) {
            return text;
        }
        int at = any(text.length());
        String middle = any(2) == 0 ? " " + WORDS[any(WORDS.length)] + " " : WORDS[any(WORDS.length)];
        return text.substring(0, at) + middle + text.substring(Math.min(text.length(), at + any(6)));
    }

    private void put(String text) {
        String cut = text.length() > 800 ? text.substring(0, 800) : text;
        x.end(0);
        Due.put(x, cut);
        m.text(cut);
        Due.is("about(6)", x.about(6), m.about(6));
    }

    private void faults(String text) {
        Due.is("fault(0) of \"" + text + "\"", x.fault(0), m.fault(0));
        Due.is("fault(1) of \"" + text + "\"", x.fault(1), m.fault(1));
        for (int what = -1; what <= 8; what++) {
            Due.is("about(" + what + ") behind \"" + text + "\"", x.about(what), m.about(what));
        }
    }

    private void readShed() {
        StringBuilder text = new StringBuilder();
        int near = from(1, 20);
        String[] settings = {"ball " + from(1, 99) + " near " + near + " far " + from(near + 1, rarely() ? 100 : 99), "rod " + any(100),
            "wire " + from(rarely() ? 0 : 1, 99), "damp " + any(rarely() ? 103 : 101), "reads " + from(1, 99), "zero " + from(-999, 999),
            "creep " + from(-999, 999), "warm " + from(-999, rarely() ? 1010 : 999), "iron " + from(-999, 999)};
        for (String setting : settings) {
            if (any(2) == 0) {
                text.append(setting).append(';').append(pick("", " ", "\n"));
            }
        }
        int causes = any(rarely() ? 11 : 9);
        for (int i = 0; i < causes; i++) {
            text.append("cause ").append(rarely() ? name() : String.valueOf((char) ('a' + i))).append(';');
        }
        int trials = causes == 0 ? 0 : any(rarely() ? 11 : 9);
        for (int i = 0; i < trials; i++) {
            text.append("trial ").append(rarely() ? name() : String.valueOf((char) ('p' + i))).append(" shows");
            int shown = from(1, (1 << causes) - 1);
            for (int c = 0; c < causes; c++) {
                if ((shown >> c & 1) == 1) {
                    text.append(' ').append((char) ('a' + c));
                }
            }
            text.append(';');
        }
        String whole = spoiled(text.toString());
        put(whole);
        Due.is("shed \"" + whole + "\"", x.shed(), m.shed());
        faults(whole);
        swings();
        trials();
    }

    private void swings() {
        for (int n = 0; n < 6; n++) {
            int side = from(rarely() ? -3 : -1, 1);
            int minute = any(rarely() ? 1100 : 1000);
            int at = from(-9999, 9999);
            int i = any(rarely() ? 22 : 20);
            for (int part = rarely() ? -1 : 0; part <= 1; part++) {
                Due.is("rest", x.rest(side, minute, part), m.rest(side, minute, part));
            }
            Due.is("turning", x.turning(side, minute, at, i), m.turning(side, minute, at, i));
            int a = from(-20, 20);
            int b = from(-20, 20);
            int c = any(2) == 0 ? from(-20, 20) : from(-9999, 9999);
            int what = any(2);
            Due.is("had " + a + " " + b + " " + c, x.had(a, b, c, what, n & 1), m.had(a, b, c, what, n & 1));
        }
        Due.is("world", x.world(m.about(5)), m.world(m.about(5)));
    }

    private void trials() {
        for (int n = 0; n < 6; n++) {
            Due.is("maybe", x.maybe(), m.maybe());
            Due.is("next", x.next(), m.next());
            Due.is("fewest", x.fewest(), m.fewest());
            int trial = from(-1, 8);
            boolean shows = any(2) == 0;
            Due.is("result", x.result(trial, shows), m.result(trial, shows));
        }
    }

    private void readHouses() {
        StringBuilder text = new StringBuilder();
        int count = any(rarely() ? 16 : 13);
        int wide = pickOf(5, 50, 9999);
        for (int i = 0; i < count; i++) {
            text.append("house ").append(rarely() ? name() : String.valueOf((char) ('a' + i))).append(" says ").append(any(wide + 1))
                .append(" span ").append(any(rarely() ? 1003 : wide / 4 % 1000 + 1)).append(" wire ").append(name())
                .append(" cellar ").append(name()).append(';').append(pick("", "\n"));
        }
        String whole = spoiled(text.toString());
        put(whole);
        Due.is("houses \"" + whole + "\"", x.houses(), m.houses());
        faults(whole);
        for (int what = -1; what <= 4; what++) {
            // Trying all sets is slow, so the model does it for few houses alone.
            if (m.about(2) <= 6 || what == 0 || what == 3) {
                Due.is("agree(" + what + ") of \"" + whole + "\"", x.agree(what), m.agree(what));
            }
        }
    }

    private int pickOf(int... of) {
        return of[any(of.length)];
    }

    private void readSum() {
        StringBuilder text = new StringBuilder();
        int count = any(rarely() ? 15 : 13);
        int deep = pickOf(1, 3, 8);
        for (int i = 0; i < count; i++) {
            text.append(rarely() ? name() : String.valueOf((char) ('a' + i))).append(" is ").append(expression(i, deep))
                .append(" prints ").append(any(3) == 0 ? "-" : "").append(any(10000)).append(';').append(pick("", " ", "\n"));
        }
        String whole = spoiled(text.toString());
        put(whole);
        Due.is("sum \"" + whole + "\"", x.sum(), m.sum());
        faults(whole);
        for (int line = -1; line <= m.about(3); line++) {
            for (int what = -1; what <= 3; what++) {
                Due.is("line(" + line + ", " + what + ") of \"" + whole + "\"", x.line(line, what), m.line(line, what));
            }
        }
        Due.is("right of \"" + whole + "\"", x.right(), m.right());
    }

    private String expression(int ahead, int deep) {
        StringBuilder e = new StringBuilder();
        int terms = from(1, 4);
        for (int i = 0; i < terms; i++) {
            e.append(i == 0 ? "" : pick("+", "-", "*", "/", " * ", "-", "/"));
            int kind = any(5);
            if (kind == 0 && deep > 0) {
                e.append('(').append(expression(ahead, deep - 1)).append(')');
            } else if (kind <= 2 && ahead > 0) {
                e.append((char) ('a' + any(ahead + (rarely() ? 2 : 0)))).append(' ');
            } else {
                e.append(any(4) == 0 ? any(10000) : any(5));
            }
        }
        return e.toString();
    }

    private void readings() {
        int most = pickOf(2, 3, 6, 40);
        int lastMinute = pickOf(2, 199);
        int wide = pickOf(5, 999);
        for (int n = 0; n < most; n++) {
            int minute = any(rarely() ? 203 : lastMinute + 1);
            int side = from(rarely() ? -2 : -1, 1);
            int number = from(-wide, rarely() ? 1001 : wide);
            Due.is("reading", x.reading(minute, side, number), m.reading(minute, side, number));
            if (any(5) == 0) {
                int by = rarely() ? from(-1, 1001) : any(3);
                Due.is("later", x.later(by), m.later(by));
            }
            if (any(8) == 0) {
                int which = from(-1, m.about(4));
                Due.is("untell", x.untell(which), m.untell(which));
            }
        }
        for (int n = 0; n < 3; n++) {
            int k = from(-1, m.about(5) + 1);
            for (int mode = 0; mode <= 2; mode++) {
                for (int what = 0; what <= 4; what++) {
                    Due.is("fit", x.fit(mode, what, n & 1, k), m.fit(mode, what, n & 1, k));
                }
            }
            Due.is("world", x.world(k), m.world(k));
        }
        Due.is("fit 3", x.fit(3, 0, 0, 0), m.fit(3, 0, 0, 0));
        Due.is("time", x.about(5), m.about(5));
    }
}
