/** Calls of any kind with any numbers, well beyond 512 of them: none throws, and each answers within what its promise lets. */
final class NeverThrowsTest {
    private static final int[] ODD = {Integer.MIN_VALUE, Integer.MIN_VALUE + 1, -100000, -1000, -13, -2, -1, 0, 1, 2, 3, 4, 5, 7, 8, 11, 12,
        13, 19, 20, 39, 40, 41, 199, 200, 999, 1000, 9999, 10000, 100000, Integer.MAX_VALUE - 1, Integer.MAX_VALUE};
    private static final String SIGNS = "ab z09;-()+*/ \n$";
    private static final String[] PIECES = {"ball 5 near 5 far 9;", "cause a;", "cause b;", "trial t shows a;", "trial u shows a b;",
        "house a says 5 span 1 wire w cellar c;", "house b says 9 span 0 wire v cellar c;", "a is 1/0 prints 3;", "b is a*a prints -5;",
        "rod 9;", "is ", "prints "};

    private long state = 99;
    private LeadBalls x = new LeadBalls();

    public static void main(String[] args) {
        NeverThrowsTest test = new NeverThrowsTest();
        for (int run = 0; run < 300; run++) {
            test.x = new LeadBalls();
            for (int n = 0; n < 700; n++) {
                test.call();
            }
        }
        Due.finish();
    }

    private int any(int below) {
        state = state * 6364136223846793005L + 1442695040888963407L;
        return (int) ((state >>> 33) % below);
    }

    private int odd() {
        return any(3) == 0 ? any(64) - 8 : ODD[any(ODD.length)];
    }

    private int four() {
        int bits = 0;
        for (int i = 0; i < 4; i++) {
            bits = bits << 8 | (any(40) == 0 ? any(256) : SIGNS.charAt(any(SIGNS.length())));
        }
        return bits;
    }

    private void text() {
        x.end(0);
        StringBuilder text = new StringBuilder();
        int pieces = any(12);
        for (int i = 0; i < pieces; i++) {
            text.append(PIECES[any(PIECES.length)]);
        }
        Due.put(x, text.toString());
    }

    private void call() {
        switch (any(26)) {
            case 0 -> Due.is("feed", x.feed(four(), four(), four(), four(), four()) <= 800, true);
            case 1 -> x.end(odd());
            case 2 -> x.shed();
            case 3 -> x.houses();
            case 4 -> x.sum();
            case 5 -> Due.is("fault", x.fault(odd()) >= -1, true);
            case 6 -> x.rest(odd(), odd(), odd());
            case 7 -> x.turning(odd(), odd(), odd(), odd());
            case 8 -> x.had(odd(), odd(), odd(), odd(), odd());
            case 9 -> Due.is("reading", x.reading(odd(), odd(), odd()) < 40, true);
            case 10 -> x.untell(odd());
            case 11 -> Due.is("later", x.later(odd()) <= 100000, true);
            case 12 -> x.fit(any(3), any(5), any(2), odd());
            case 13 -> x.fit(odd(), odd(), odd(), odd());
            case 14 -> Due.is("world", x.world(odd()) >= -1, true);
            case 15 -> x.order(odd());
            case 16 -> Due.is("agree", x.agree(odd()) >= -1, true);
            case 17 -> x.line(odd(), any(5) - 1);
            case 18 -> x.right();
            case 19 -> x.result(odd(), any(2) == 0);
            case 20 -> Due.is("maybe", x.maybe() >= 0, true);
            case 21 -> x.next();
            case 22 -> Due.is("fewest", x.fewest() >= -1, true);
            case 23 -> x.about(odd());
            default -> text();
        }
    }
}
