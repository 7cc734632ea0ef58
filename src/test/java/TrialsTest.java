/** CAUSES and TRIALS (Terms, part 6) and promises 20 to 23: result, maybe, next, fewest. */
final class TrialsTest {
    private static final int NONE = LeadBalls.NONE;
    private static final String EIGHT = "cause a;cause b;cause c;cause d;cause e;cause f;cause g;cause h;";
    private static final String FOUR = "cause a;cause b;cause c;cause d;";

    public static void main(String[] args) {
        oneOfThem();
        showsOrNothing();
        latestCounts();
        maybeByAll();
        nextParts();
        nextFirst();
        nextNone();
        fewestNumber();
        fewestChosen();
        resultsTellNothingMore();
        resultTold();
        resultRefused();
        maybeBits();
        next();
        noNext();
        fewest();
        fewestNothing();
        fewestNone();
        Due.finish();
    }

    private static void oneOfThem() {
        Due.by("Terms 6", "One of the CAUSES made it so.");
        Due.is("no cause", new LeadBalls().maybe(), 0);
        Due.is("one", Due.shed("cause a;", 1).maybe(), 1);
        Due.is("eight", Due.shed(EIGHT, 8).maybe(), 255);
    }

    private static void showsOrNothing() {
        Due.by("Terms 6", "RESULTS: a TRIAL shows something, if it shows that CAUSE, or nothing");
        LeadBalls x = Due.shed(FOUR + "trial t shows a c;", 5);
        x.result(0, true);
        Due.is("something", x.maybe(), 5);
        x.result(0, false);
        Due.is("nothing", x.maybe(), 10);
        // One that shows all always shows something.
        LeadBalls all = Due.shed(EIGHT + "trial t shows a b c d e f g h;", 9);
        all.result(0, true);
        Due.is("something", all.maybe(), 255);
        all.result(0, false);
        Due.is("nothing can't be", all.maybe(), 0);
    }

    private static void latestCounts() {
        Due.by("Terms 6", "(told; the latest counts; none at first, and behind another SHED).");
        String text = "cause a;cause b;trial t shows a;trial u shows b;";
        LeadBalls x = Due.shed(text, 4);
        Due.is("none at first", x.maybe(), 3);
        x.result(0, true);
        Due.is("told", x.maybe(), 1);
        x.result(0, false);
        Due.is("the latest", x.maybe(), 2);
        x.result(0, true);
        Due.is("the latest", x.maybe(), 1);
        x.result(1, false);
        Due.shed(x, text, 4);
        Due.is("none behind another", x.maybe(), 3);
        Due.is("nor of the second", x.result(1, false), true);
        Due.is("nor of the first", x.result(0, true), true);
        Due.shed(x, "", 0);
        Due.is("no causes", x.maybe(), 0);
        Due.is("no trial", x.result(0, true), false);
        // Behind a faulty one they stay.
        Due.shed(x, text, 4);
        x.result(0, false);
        Due.badShed(x, "cause^", 2);
        Due.is("they stay", x.maybe(), 2);
    }

    private static void maybeByAll() {
        Due.by("Terms 6", "MAYBE: CAUSES that all RESULTS let.");
        LeadBalls x = Due.shed(EIGHT + "trial x shows a b c d;trial y shows a b e f;trial z shows a c e g;", 11);
        x.result(0, true);
        Due.is("one", x.maybe(), 0b00001111);
        x.result(1, false);
        Due.is("two", x.maybe(), 0b00001100);
        x.result(2, true);
        Due.is("three", x.maybe(), 0b00000100);
        // Results that gainsay one another let none.
        LeadBalls y = Due.shed("cause a;cause b;trial t shows a;trial u shows b;", 4);
        y.result(0, true);
        y.result(1, true);
        Due.is("none", y.maybe(), 0);
        y.result(1, false);
        Due.is("one again", y.maybe(), 1);
    }

    private static void nextParts() {
        Due.by("Terms 6", "NEXT: of TRIALS without a RESULT that by which the greater of both parts of MAYBE is least");
        LeadBalls x = Due.shed(FOUR + "trial o shows a;trial p shows a b;trial q shows a b c;", 7);
        Due.is("halves", x.next(), 1);
        x.result(1, true);
        Due.is("of a and b", x.next(), 0);
        // The parts are those of MAYBE, not of all CAUSES.
        LeadBalls y = Due.shed(EIGHT + "trial o shows a b c;trial p shows a e f g;trial q shows a b c d;", 11);
        Due.is("4 and 4", y.next(), 1);
        y.result(2, true);
        Due.is("3 and 1, or 1 and 3: the first", y.next(), 0);
        // The best has a result, so the next best.
        LeadBalls z = Due.shed(FOUR + "trial p shows a b;trial o shows a;trial q shows a c;", 7);
        z.result(0, false);
        Due.is("c from d", z.next(), 2);
        // The last of eight.
        LeadBalls w = Due.shed(FOUR + "trial a shows a;trial b shows a;trial c shows a;trial d shows a;trial e shows a;trial f shows a;"
            + "trial g shows a;trial h shows c d;", 12);
        Due.is("the eighth", w.next(), 7);
    }

    private static void nextFirst() {
        Due.by("Terms 6", "of like ones the first");
        Due.is("two halves", Due.shed(FOUR + "trial o shows a;trial p shows a b;trial q shows c d;trial r shows b c;", 8).next(), 1);
        // One that shows three of four is as good as one that shows one.
        Due.is("3 and 1", Due.shed(FOUR + "trial t shows b c d;trial s shows a;", 6).next(), 0);
        Due.is("1 and 3", Due.shed(FOUR + "trial t shows a;trial s shows b c d;", 6).next(), 0);
    }

    private static void nextNone() {
        Due.by("Terms 6", "none if none parts it.");
        Due.is("no causes", new LeadBalls().next(), NONE);
        Due.is("one cause", Due.shed("cause a;trial t shows a;", 2).next(), NONE);
        Due.is("no trials", Due.shed("cause a;cause b;", 2).next(), NONE);
        Due.is("all shown", Due.shed("cause a;cause b;trial t shows a b;", 3).next(), NONE);
        LeadBalls x = Due.shed(FOUR + "trial o shows a;trial p shows a b;trial r shows a b c d;", 7);
        x.result(1, false);
        Due.is("c and d are not parted", x.next(), NONE);
        x.result(1, true);
        x.result(0, false);
        Due.is("one left", x.next(), NONE);
        x.result(2, false);
        Due.is("none left", x.next(), NONE);
    }

    private static void fewestNumber() {
        Due.by("Terms 6", "FEWEST: the least n so that n TRIALS");
        Due.is("halves", Due.shed(EIGHT + "trial x shows a b c d;trial y shows a b e f;trial z shows a c e g;", 11).fewest(), 3);
        String each = "trial i shows a;trial j shows b;trial k shows c;trial l shows d;trial m shows e;trial n shows f;trial o shows g;";
        Due.is("one by one", Due.shed(EIGHT + each, 15).fewest(), 7);
        Due.is("an eighth helps none", Due.shed(EIGHT + each + "trial p shows h;", 16).fewest(), 7);
        Due.is("one", Due.shed("cause a;cause b;trial t shows b;", 3).fewest(), 1);
        // Least: the poor ones are told first.
        Due.is("two", Due.shed(FOUR + "trial x shows a;trial y shows b;trial z shows c;trial v shows a b;trial w shows a c;", 9).fewest(), 2);
    }

    private static void fewestChosen() {
        Due.by("Terms 6", "each chosen by RESULTS of those ahead, tell the CAUSE in any case");
        // First a b or c d, then another one for each: no two of these alone would tell.
        Due.is("chosen", Due.shed(FOUR + "trial x shows a b;trial y shows a;trial z shows c;", 7).fewest(), 2);
        // In any case, not in the best: a is told at once, b from c by one more.
        Due.is("the worse case", Due.shed("cause a;cause b;cause c;trial x shows a;trial y shows b;", 5).fewest(), 2);
        // NEXT, the first of four like ones, need not be the way to tell soonest: from there three more are needed.
        LeadBalls x = Due.shed("cause a;cause b;cause c;cause d;cause e;cause f;"
            + "trial h shows a f;trial i shows a c;trial j shows a c d e;trial k shows b c e f;", 10);
        Due.is("next", x.next(), 0);
        Due.is("fewest", x.fewest(), 3);
        x.result(0, false);
        Due.is("fewest from there", x.fewest(), 3);
    }

    private static void resultsTellNothingMore() {
        Due.by("Terms 6", "(TRIALS that have a RESULT tell nothing more).");
        LeadBalls x = Due.shed(FOUR + "trial x shows a b;trial y shows a;trial z shows c;", 7);
        x.result(0, true);
        Due.is("a from b", x.fewest(), 1);
        x.result(1, false);
        Due.is("told", x.fewest(), 0);
        x.result(0, false);
        Due.is("c from d", x.fewest(), 1);
        x.result(2, false);
        Due.is("told", x.fewest(), 0);
        LeadBalls y = Due.shed(FOUR + "trial x shows a b;trial y shows a;", 6);
        y.result(0, false);
        Due.is("c and d are not told", y.fewest(), NONE);
    }

    private static void resultTold() {
        Due.by("Promise 20", "A RESULT: true");
        LeadBalls x = Due.shed("cause a;cause b;trial t shows a;trial u shows b;", 4);
        Due.is("nothing", x.result(0, false), true);
        Due.is("something", x.result(0, true), true);
        Due.is("nothing again", x.result(0, false), true);
        Due.is("the other", x.result(1, false), true);
        Due.is("gainsaying is told, too", x.maybe(), 0);
    }

    private static void resultRefused() {
        Due.by("Promise 20", "false, doing nothing, if there is no such TRIAL, or it is so already.");
        LeadBalls x = new LeadBalls();
        Due.is("no trials", x.result(0, true), false);
        Due.shed(x, "cause a;cause b;trial t shows a;trial u shows b;", 4);
        for (int trial : new int[] {-1, 2, 7, 8, 32, Integer.MIN_VALUE, Integer.MAX_VALUE}) {
            Due.is("trial " + trial, x.result(trial, true), false);
            Due.is("trial " + trial, x.result(trial, false), false);
        }
        Due.is("nothing is done", x.maybe(), 3);
        x.result(0, false);
        Due.is("so already", x.result(0, false), false);
        Due.is("nothing is done", x.maybe(), 2);
        x.result(1, true);
        Due.is("so already", x.result(1, true), false);
        Due.is("so already", x.result(0, false), false);
        Due.is("nothing is done", x.maybe(), 2);
    }

    private static void maybeBits() {
        Due.by("Promise 21", "MAYBE, as bits.");
        LeadBalls x = Due.shed(EIGHT + "trial t shows a h;", 9);
        Due.is("all", x.maybe(), 255);
        x.result(0, true);
        Due.is("the first and the last", x.maybe(), 129);
        x.result(0, false);
        Due.is("those between", x.maybe(), 126);
    }

    private static void next() {
        Due.by("Promise 22", "NEXT");
        LeadBalls x = Due.shed("cause p;cause q;cause r;trial x shows p q r;trial y shows p q;", 5);
        Due.is("next()", x.next(), 1);
        Due.is("asking tells nothing", x.next(), 1);
    }

    private static void noNext() {
        Due.by("Promise 22", "NONE if there is none.");
        LeadBalls x = Due.shed("cause p;cause q;cause r;trial x shows p q r;trial y shows p q;", 5);
        x.result(1, true);
        Due.is("p and q are not parted", x.next(), NONE);
        x.result(1, false);
        Due.is("r alone", x.next(), NONE);
    }

    private static void fewest() {
        Due.by("Promise 23", "FEWEST");
        LeadBalls x = Due.shed("cause p;cause q;cause r;trial x shows p;trial y shows p q;", 5);
        Due.is("fewest()", x.fewest(), 2);
        x.result(0, false);
        Due.is("fewest()", x.fewest(), 1);
    }

    private static void fewestNothing() {
        Due.by("Promise 23", "(0 if MAYBE has one CAUSE or none)");
        Due.is("no causes", new LeadBalls().fewest(), 0);
        Due.is("one cause", Due.shed("cause a;", 1).fewest(), 0);
        LeadBalls x = Due.shed(EIGHT + "trial t shows h;trial u shows a;", 10);
        x.result(0, true);
        Due.is("one left", x.fewest(), 0);
        x.result(1, true);
        Due.is("none left", x.fewest(), 0);
        // Behind a shed of eight, one that is empty, and one of two.
        Due.shed(x, "", 0);
        Due.is("no causes", x.fewest(), 0);
        Due.shed(x, "cause a;cause b;trial t shows a;", 3);
        Due.is("two causes", x.fewest(), 1);
    }

    private static void fewestNone() {
        Due.by("Promise 23", "NONE if they do not tell.");
        Due.is("no trials", Due.shed("cause a;cause b;", 2).fewest(), NONE);
        Due.is("all shown", Due.shed("cause a;cause b;trial t shows a b;", 3).fewest(), NONE);
        Due.is("two are not parted", Due.shed(EIGHT + "trial x shows a b c d;trial y shows a b e f;", 10).fewest(), NONE);
        // Told in one case, not in the other.
        LeadBalls x = Due.shed("cause a;cause b;cause c;trial t shows a;", 4);
        Due.is("b and c", x.fewest(), NONE);
        x.result(0, true);
        Due.is("a alone", x.fewest(), 0);
        x.result(0, false);
        Due.is("b and c", x.fewest(), NONE);
    }
}
