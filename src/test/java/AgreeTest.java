/** Promise 17: agree. */
final class AgreeTest {
    public static void main(String[] args) {
        more();
        leftOut();
        apart();
        wrongOnes();
        Due.finish();
    }

    /** Pairs of says and span; each house has a wire and a cellar of its own. */
    private static LeadBalls told(int... pairs) {
        StringBuilder text = new StringBuilder();
        for (int i = 0; i < pairs.length; i += 2) {
            char c = (char) ('a' + i / 2);
            text.append("house ").append(c).append(" says ").append(pairs[i]).append(" span ").append(pairs[i + 1])
                .append(" wire ").append(c).append(" cellar ").append(c).append(';');
        }
        LeadBalls x = new LeadBalls();
        Due.houses(x, text.toString(), pairs.length / 2);
        return x;
    }

    private static void more() {
        Due.is("one", told(5, 0).agree(0), 0);
        Due.is("touching", told(5, 1, 7, 1).agree(0), 0);
        Due.is("one between", told(5, 1, 8, 1).agree(0), 1);
        Due.is("two between", told(5, 1, 9, 1).agree(0), 1);
        Due.is("three between", told(5, 1, 10, 1).agree(0), 2);
        Due.is("widest", told(0, 0, 9999, 0).agree(0), 5000);
        Due.is("within", told(100, 999, 100, 0).agree(0), 0);
        Due.is("the farthest count", told(5, 0, 50, 9, 20, 0).agree(0), 18);
    }

    private static void leftOut() {
        Due.is("none out", told(5, 1, 6, 1, 7, 1).agree(1), 0);
        Due.is("all let one", told(5, 1, 6, 1, 7, 1).agree(2), 3);
        Due.is("one out", told(5, 1, 50, 1, 7, 1).agree(1), 2);
        Due.is("two let one", told(5, 1, 50, 1, 7, 1).agree(2), 2);
        Due.is("of like ones the least", told(5, 0, 6, 0).agree(1), 1);
        Due.is("of like ones the least", told(6, 0, 5, 0).agree(1), 1);
        Due.is("pairs", told(5, 0, 6, 0, 5, 0, 6, 0).agree(1), 5);
        Due.is("a chain", told(1, 1, 3, 1, 5, 1).agree(1), 1);
        Due.is("twelve apart", told(0, 0, 1, 0, 2, 0, 3, 0, 4, 0, 5, 0, 6, 0, 7, 0, 8, 0, 9, 0, 10, 0, 11, 0).agree(1), 2047);
        Due.is("twelve apart", told(0, 0, 1, 0, 2, 0, 3, 0, 4, 0, 5, 0, 6, 0, 7, 0, 8, 0, 9, 0, 10, 0, 11, 0).agree(2), 1);
        Due.is("below 0", told(0, 9, 1, 9).agree(1), 0);
    }

    private static String house(String name, String wire, String cellar) {
        return "house " + name + " says 1 span 1 wire " + wire + " cellar " + cellar + ";";
    }

    private static void apart() {
        LeadBalls x = new LeadBalls();
        Due.houses(x, house("a", "w", "c"), 1);
        Due.is("one", x.agree(3), 1);
        Due.houses(x, house("a", "w", "c") + house("b", "v", "d"), 2);
        Due.is("two", x.agree(3), 2);
        Due.houses(x, house("a", "w", "c") + house("b", "w", "d"), 2);
        Due.is("a wire", x.agree(3), 1);
        Due.houses(x, house("a", "w", "c") + house("b", "v", "c"), 2);
        Due.is("a cellar", x.agree(3), 1);
        Due.houses(x, house("a", "w", "c") + house("b", "c", "w"), 2);
        Due.is("a wire is no cellar", x.agree(3), 2);
        Due.houses(x, house("a", "w", "c") + house("b", "v", "d") + house("c", "w", "d"), 3);
        Due.is("through another", x.agree(3), 1);
        Due.houses(x, house("a", "p", "p") + house("b", "q", "q") + house("c", "r", "r") + house("d", "p", "r")
            + house("e", "s", "s") + house("f", "q", "t"), 6);
        Due.is("three parts", x.agree(3), 3);
    }

    private static void wrongOnes() {
        LeadBalls x = new LeadBalls();
        for (int what = -1; what <= 4; what++) {
            Due.is("without houses", x.agree(what), LeadBalls.NONE);
        }
        Due.is("what 4", told(5, 1).agree(4), LeadBalls.NONE);
        Due.is("what -1", told(5, 1).agree(-1), LeadBalls.NONE);
    }
}
