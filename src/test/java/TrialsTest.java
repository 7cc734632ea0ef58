/** Promises 20 to 23: result, maybe, next, fewest. */
final class TrialsTest {
    private static final int NONE = LeadBalls.NONE;

    public static void main(String[] args) {
        results();
        nextOnes();
        fewestOnes();
        anotherShed();
        Due.finish();
    }

    private static void results() {
        LeadBalls x = new LeadBalls();
        Due.shed(x, "cause p;cause q;cause r;trial x shows p;trial y shows p q;trial z shows r;", 6);
        Due.is("all may be", x.maybe(), 7);
        Due.is("no trial 3", x.result(3, true), false);
        Due.is("no trial -1", x.result(-1, true), false);
        Due.is("shows nothing", x.result(0, false), true);
        Due.is("so already", x.result(0, false), false);
        Due.is("without p", x.maybe(), 6);
        Due.is("the latest counts", x.result(0, true), true);
        Due.is("p alone", x.maybe(), 1);
        Due.is("so already", x.result(0, true), false);
        Due.is("against it", x.result(2, true), true);
        Due.is("none may be", x.maybe(), 0);
        Due.is("none parts none", x.next(), NONE);
        Due.is("nothing to tell", x.fewest(), 0);
        Due.is("so it is let again", x.result(2, false), true);
        Due.is("p alone", x.maybe(), 1);
    }

    private static void nextOnes() {
        LeadBalls x = new LeadBalls();
        Due.shed(x, "cause a;cause b;cause c;cause d;trial o shows a;trial p shows a b;trial q shows c d;trial r shows a b c d;", 8);
        Due.is("halves, the first", x.next(), 1);
        x.result(1, true);
        Due.is("a from b", x.next(), 0);
        x.result(0, false);
        Due.is("one left", x.next(), NONE);
        x.result(1, false);
        Due.is("c and d are not parted", x.next(), NONE);
        Due.is("nor told", x.fewest(), NONE);
        Due.is("they may be", x.maybe(), 12);
        // One that shows three of four is as good as one that shows one.
        Due.shed(x, "cause a;cause b;cause c;cause d;trial t shows b c d;trial s shows a;", 6);
        Due.is("the first", x.next(), 0);
        Due.shed(x, "cause a;trial t shows a;", 2);
        Due.is("one cause", x.next(), NONE);
        Due.shed(x, "cause a;cause b;", 2);
        Due.is("no trials", x.next(), NONE);
        Due.is("no trials", x.fewest(), NONE);
    }

    private static void fewestOnes() {
        LeadBalls x = new LeadBalls();
        String eight = "cause a;cause b;cause c;cause d;cause e;cause f;cause g;cause h;";
        Due.shed(x, eight + "trial x shows a b c d;trial y shows a b e f;trial z shows a c e g;", 11);
        Due.is("halves", x.fewest(), 3);
        x.result(1, true);
        Due.is("halves", x.fewest(), 2);
        Due.shed(x, eight + "trial i shows a;trial j shows b;trial k shows c;trial l shows d;"
            + "trial m shows e;trial n shows f;trial o shows g;", 15);
        Due.is("one by one", x.fewest(), 7);
        x.result(2, false);
        Due.is("one less", x.fewest(), 6);
        x.result(3, true);
        Due.is("told", x.fewest(), 0);
        Due.shed(x, eight + "trial x shows a b c d;trial y shows a b e f;", 10);
        Due.is("not told", x.fewest(), NONE);
        // Each may be chosen by what those ahead showed: no two trials in one row would do here for all.
        Due.shed(x, "cause a;cause b;cause c;cause d;trial x shows a b;trial y shows a;trial z shows c;", 7);
        Due.is("chosen by results", x.fewest(), 2);
        // What parts best first need not be best: NEXT by the greater part, FEWEST by the whole tree.
        Due.shed(x, "cause a;cause b;cause c;trial x shows a;trial y shows b;", 5);
        Due.is("two", x.fewest(), 2);
        Due.is("first", x.next(), 0);
    }

    private static void anotherShed() {
        LeadBalls x = new LeadBalls();
        String text = "cause a;cause b;trial t shows a;";
        Due.shed(x, text, 3);
        x.result(0, true);
        Due.is("told", x.maybe(), 1);
        Due.shed(x, text, 3);
        Due.is("results are none", x.maybe(), 3);
        Due.is("it can be told", x.result(0, true), true);
        Due.badShed(x, "cause", 2, 5);
        Due.is("a fault leaves them", x.maybe(), 1);
        Due.shed(x, "", 0);
        Due.is("no causes", x.maybe(), 0);
        Due.is("no trial", x.result(0, true), false);
    }
}
