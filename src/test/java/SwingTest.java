/** The rod on its wire (Terms, part 2) and promises 8 to 10: rest, turning, had. */
final class SwingTest {
    private static final long GAP = LeadBalls.GAP;
    private static final int MOST = 9999;
    /** PULL is 2 * 3 * 1.001 * (1 / 4 - 1 / 9) = 1001 / 1200: 834 thousandths, or -835 of them on the other side. */
    private static final String THIRDS = "ball 3 near 2 far 3;wire 2;rod 1;";

    public static void main(String[] args) {
        sides();
        minutes();
        restAndPull();
        notCut();
        fromX();
        restRoundedDown();
        firstPoint();
        nextPoints();
        read();
        hadBounds();
        hadOrdinary();
        hadNothing();
        restUpper();
        restLower();
        restLowestTerms();
        restCantBe();
        turningPoints();
        turningCantBe();
        hadWhat();
        hadLowestTerms();
        hadNone();
        hadCantBe();
        Due.finish();
    }

    private static void rest(LeadBalls x, int side, int minute, long upper, long lower) {
        Due.fraction("rest(" + side + ", " + minute + ")", x.rest(side, minute, 0), x.rest(side, minute, 1), upper, lower);
    }

    private static void sides() {
        Due.by("Terms 2", "With the balls on a SIDE (-1, 0 away, 1)");
        LeadBalls x = Due.shed("zero 5;warm 1;", 2);
        rest(x, -1, 0, 5 - 100, 1);
        rest(x, 0, 0, 5, 1);
        rest(x, 1, 0, 5 + 100, 1);
        for (int side : new int[] {-2, 2, 3, Integer.MIN_VALUE, Integer.MAX_VALUE}) {
            rest(x, side, 0, GAP, GAP);
            Due.is("turning(" + side + ")", x.turning(side, 0, 0, 0), GAP);
        }
    }

    private static void minutes() {
        Due.by("Terms 2", "in a MINUTE m (0 .. 999)");
        LeadBalls x = Due.shed("creep 10;", 1);
        rest(x, 0, 0, 0, 1);
        rest(x, 0, 1, 1, 1);
        rest(x, 0, 999, 999, 1);
        for (int minute : new int[] {-1, 1000, Integer.MIN_VALUE, Integer.MAX_VALUE}) {
            rest(x, 0, minute, GAP, GAP);
            Due.is("turning in " + minute, x.turning(0, minute, 0, 0), GAP);
        }
    }

    private static void restAndPull() {
        Due.by("Terms 2", "the REST is zero + creep * m / 10 + iron * SIDE * SIDE + SIDE * (warm + PULL), PULL: wire * ball * (1000 + rod) "
            + "/ 1000 * (1 / (near * near) - 1 / (far * far))");
        rest(Due.shed(THIRDS, 3), 1, 0, 1001, 1200);
        rest(Due.shed(THIRDS, 3), -1, 0, -1001, 1200);
        // Iron draws on both sides alike, warmth with the side, creep with the minute.
        LeadBalls x = Due.shed("zero 1;creep -3;warm 20;iron 300;", 4);
        rest(x, 1, 0, 1 + 300 + 20 + 99, 1);
        rest(x, -1, 0, 1 + 300 - 20 - 99, 1);
        rest(x, 0, 0, 1, 1);
        rest(x, 1, 10, 1 - 3 + 300 + 20 + 99, 1);
        // The farthest out to both sides: 99 * 99 * 1.099 * (1 - 1 / 9801) = 10770.2, and 999 * 99.9 = 99800.1.
        String far = "ball 99 near 1 far 99;wire 99;rod 99;";
        rest(Due.shed(far + "zero 999;creep 999;warm 999;iron 999;", 7), 1, 999, 1135673, 10);
        rest(Due.shed(far + "zero -999;creep -999;warm 999;iron -999;", 7), -1, 999, -1135673, 10);
        // The least PULL: 1 / 400 - 1 / 441.
        rest(Due.shed("ball 1 near 20 far 21;wire 1;rod 0;", 3), 1, 0, 41, 176400);
    }

    private static void notCut() {
        Due.by("Terms 2", "fractions, not cut.");
        LeadBalls x = Due.shed("zero 1;creep -3;", 2);
        rest(x, 0, 1, 7, 10);
        rest(x, 0, 5, -1, 2);
        rest(x, 0, 999, -2987, 10);
        rest(Due.shed(THIRDS + "creep 1;", 4), 1, 1, 1121, 1200);
    }

    private static void fromX() {
        Due.by("Terms 2", "From x (-9999 .. 9999) it SWINGS");
        LeadBalls x = Due.shed("damp 100;", 1);
        Due.is("from 9999", x.turning(0, 0, MOST, 1), -MOST);
        Due.is("from -9999", x.turning(0, 0, -MOST, 1), MOST);
        for (int from : new int[] {MOST + 1, -MOST - 1, Integer.MIN_VALUE, Integer.MAX_VALUE}) {
            Due.is("from " + from, x.turning(0, 0, from, 0), GAP);
            Due.is("from " + from, x.turning(0, 0, from, 1), GAP);
        }
    }

    private static void restRoundedDown() {
        Due.by("Terms 2", "in thousandths, all rounded down: about REST * 1000");
        // Without any swing it stands at the REST: 834 thousandths; -835 on the other side.
        Due.is("0.834", Due.shed(THIRDS + "damp 0;", 4).turning(1, 0, 0, 1), 0);
        Due.is("-0.835", Due.shed(THIRDS + "damp 0;", 4).turning(-1, 0, 0, 1), -1);
        // 1 - 1 / 9801 is 999.9 thousandths: 999, which is not 1 yet.
        Due.is("0.999", Due.shed("ball 1 near 1 far 99;wire 1;damp 0;", 3).turning(1, 0, 0, 1), 0);
        Due.is("-1.000", Due.shed("ball 1 near 1 far 99;wire 1;damp 0;", 3).turning(-1, 0, 0, 1), -1);
        // REST -0.0002 is -1 thousandth, not 0; from 0 it swings to twice that.
        LeadBalls x = Due.shed("ball 1 near 20 far 21;wire 1;damp 100;", 3);
        Due.is("a little below 0", x.turning(-1, 0, 0, 1), -1);
        Due.is("a little above 0", x.turning(1, 0, 0, 1), 0);
    }

    private static void firstPoint() {
        Due.by("Terms 2", "the first turning point x * 1000");
        LeadBalls x = new LeadBalls();
        for (int from : new int[] {-MOST, -1, 0, 1, MOST}) {
            Due.is("point 0 from " + from, x.turning(1, 999, from, 0), from);
        }
    }

    private static void nextPoints() {
        Due.by("Terms 2", "each next one (100 * that - (the one ahead - that) * damp) / 100.");
        LeadBalls x = new LeadBalls();
        Due.is("point 1", x.turning(1, 0, 0, 1), 188);
        Due.is("point 2", x.turning(1, 0, 0, 2), 18);
        // From its REST it does not swing.
        Due.is("point 19 from the rest", x.turning(1, 0, 99, 19), 99);
        // Without loss it swings for ever; with all lost it rests at once.
        LeadBalls ever = Due.shed("damp 100;", 1);
        Due.is("damp 100, point 18", ever.turning(0, 0, 500, 18), 500);
        Due.is("damp 100, point 19", ever.turning(0, 0, 500, 19), -500);
        LeadBalls once = Due.shed("damp 0;zero 3;", 2);
        Due.is("damp 0, point 0", once.turning(0, 0, 500, 0), 500);
        Due.is("damp 0, point 1", once.turning(0, 0, 500, 1), 3);
        Due.is("damp 0, point 19", once.turning(0, 0, 500, 19), 3);
        // Each is rounded down by itself: REST 0, damp 33: 1000, -330, 108 (108.9), -36 (-35.64), 11 (11.88),
        // -4 (-3.63), 1 (1.32), -1 (-0.33), 0 (0.33), 0.
        LeadBalls y = Due.shed("damp 33;", 1);
        int[] due = {1, -1, 0, -1, 0, -1, 0, -1, 0, 0};
        for (int i = 0; i < due.length; i++) {
            Due.is("point " + i, y.turning(0, 0, 1, i), due[i]);
        }
        Due.is("point 19", y.turning(0, 0, 1, 19), 0);
        // From 113567.3 twice that and 9999: 237133.6.
        LeadBalls far = Due.shed("creep 999;zero 999;warm 999;iron 999;ball 99 near 1 far 99;wire 99;rod 99;damp 100;", 8);
        Due.is("far out", far.turning(1, 999, -MOST, 1), 237133);
        Due.is("and back", far.turning(1, 999, -MOST, 2), -MOST);
    }

    private static void read() {
        Due.by("Terms 2", "It is READ as the greatest whole number of reads (of a thousand thousandths each) that is no more, times reads.");
        LeadBalls x = Due.shed("reads 5;", 1);
        int[] from = {-11, -10, -9, -8, -6, -5, -4, -1, 0, 1, 4, 5, 6, 9, 10, 27};
        int[] due = {-15, -10, -10, -10, -10, -5, -5, -5, 0, 0, 0, 5, 5, 5, 10, 25};
        for (int i = 0; i < from.length; i++) {
            Due.is("read " + from[i], x.turning(0, 0, from[i], 0), due[i]);
        }
        LeadBalls y = Due.shed("reads 99;", 1);
        Due.is("read 9999", y.turning(0, 0, MOST, 0), MOST);
        Due.is("read 9998", y.turning(0, 0, MOST - 1, 0), MOST - 99);
        Due.is("read -9999", y.turning(0, 0, -MOST, 0), -MOST);
        Due.is("read -9998", y.turning(0, 0, 1 - MOST, 0), -MOST);
        // What is READ does not go into the next one: 27 by fives is 25, but 27 is swung from.
        Due.is("swung from 27", Due.shed("reads 5;damp 100;", 2).turning(0, 0, 27, 1), -30);
        Due.is("swung from 25", Due.shed("reads 5;damp 100;", 2).turning(0, 0, 25, 1), -25);
        // Thousandths are read, too: -0.001 is below 0.
        Due.is("a thousandth below", Due.shed("ball 1 near 20 far 21;wire 1;damp 0;", 3).turning(-1, 0, 0, 1), -1);
    }

    private static void had(int a, int b, int c, int what, long upper, long lower) {
        LeadBalls x = new LeadBalls();
        String call = "had(" + a + ", " + b + ", " + c + ", " + what + ")";
        Due.fraction(call, x.had(a, b, c, what, 0), x.had(a, b, c, what, 1), upper, lower);
    }

    private static void hadBounds() {
        Due.by("Terms 2", "HAD from three turning points a, b, c (-9999 .. 9999)");
        had(MOST, -MOST, MOST, 0, 0, 1);
        had(MOST, -MOST, MOST, 1, 1, 1);
        had(-MOST, MOST, -MOST, 0, 0, 1);
        had(-MOST, MOST, MOST, 0, MOST, 1);
        had(MOST, -MOST, MOST - 1, 0, -MOST, 39995);
        had(MOST, -MOST, 0, 0, -3333, 1);
        had(0, MOST, -MOST, 0, 3333, 1);
        for (int off : new int[] {MOST + 1, -MOST - 1, Integer.MIN_VALUE, Integer.MAX_VALUE}) {
            for (int what = 0; what <= 1; what++) {
                had(off, 0, 1, what, GAP, GAP);
                had(1, off, 0, what, GAP, GAP);
                had(1, 0, off, what, GAP, GAP);
            }
        }
    }

    private static void hadOrdinary() {
        Due.by("Terms 2", "REST (a * c - b * b) / (a + c - 2 * b), damp (b - c) / (b - a)");
        had(0, 188, 18, 0, 17672, 179);
        had(0, 188, 18, 1, 85, 94);
        had(0, 2, 3, 0, 4, 1);
        had(0, 2, 3, 1, -1, 2);
        had(3, 2, 0, 0, 4, 1);
        had(10, -8, 7, 0, 2, 11);
        had(10, -8, 7, 1, 5, 6);
    }

    private static void hadNothing() {
        Due.by("Terms 2", "nothing if a lower part is 0.");
        had(1, 2, 3, 0, GAP, GAP);
        had(-5, 0, 5, 0, GAP, GAP);
        had(4, 4, 4, 0, GAP, GAP);
        had(1, 1, 3, 1, GAP, GAP);
        had(4, 4, 4, 1, GAP, GAP);
        // One can be had where the other can't.
        had(1, 2, 3, 1, -1, 1);
        had(1, 1, 3, 0, 1, 1);
        // An upper part may be 0.
        had(10, -10, 10, 0, 0, 1);
        had(5, 3, 3, 1, 0, 1);
    }

    private static void restUpper() {
        Due.by("Promise 8", "REST: upper part (0; it may be below 0)");
        Due.is("above", Due.shed(THIRDS, 3).rest(1, 0, 0), 1001);
        Due.is("below", Due.shed(THIRDS, 3).rest(-1, 0, 0), -1001);
        Due.is("nothing", Due.shed(THIRDS, 3).rest(0, 0, 0), 0);
    }

    private static void restLower() {
        Due.by("Promise 8", "lower part (1)");
        Due.is("above 0 on each side", Due.shed(THIRDS, 3).rest(1, 0, 1), 1200);
        Due.is("above 0 on each side", Due.shed(THIRDS, 3).rest(-1, 0, 1), 1200);
        Due.is("above 0 on each side", Due.shed(THIRDS, 3).rest(0, 0, 1), 1);
    }

    private static void restLowestTerms() {
        Due.by("Promise 8", "in lowest terms");
        LeadBalls x = Due.shed("creep 4;", 1);
        rest(x, 0, 0, 0, 1);
        rest(x, 0, 1, 2, 5);
        rest(x, 0, 5, 2, 1);
        rest(x, 0, 10, 4, 1);
        LeadBalls y = Due.shed("creep -4;", 1);
        rest(y, 0, 1, -2, 5);
        rest(y, 0, 5, -2, 1);
    }

    private static void restCantBe() {
        Due.by("Promise 8", "GAP if one can't be.");
        LeadBalls x = new LeadBalls();
        for (int part : new int[] {-1, 2, Integer.MIN_VALUE, Integer.MAX_VALUE}) {
            Due.is("part " + part, x.rest(1, 0, part), GAP);
        }
        for (int part = 0; part <= 1; part++) {
            Due.is("side -2", x.rest(-2, 0, part), GAP);
            Due.is("side 2", x.rest(2, 0, part), GAP);
            Due.is("minute -1", x.rest(0, -1, part), GAP);
            Due.is("minute 1000", x.rest(0, 1000, part), GAP);
        }
    }

    private static void turningPoints() {
        Due.by("Promise 9", "The i-th turning point (0 .. 19; 0 is x) from x: READ");
        LeadBalls x = Due.shed("reads 2;damp 100;", 2);
        for (int i = 0; i <= 19; i++) {
            Due.is("point " + i, x.turning(0, 0, 7, i), i % 2 == 0 ? 6 : -8);
        }
    }

    private static void turningCantBe() {
        Due.by("Promise 9", "GAP if one can't be.");
        LeadBalls x = new LeadBalls();
        for (int i : new int[] {-1, 20, Integer.MIN_VALUE, Integer.MAX_VALUE}) {
            Due.is("point " + i, x.turning(1, 0, 0, i), GAP);
        }
        for (int i : new int[] {0, 19}) {
            Due.is("side 2", x.turning(2, 0, 0, i), GAP);
            Due.is("side -2", x.turning(-2, 0, 0, i), GAP);
            Due.is("minute 1000", x.turning(0, 1000, 0, i), GAP);
            Due.is("minute -1", x.turning(0, -1, 0, i), GAP);
            Due.is("x 10000", x.turning(0, 0, MOST + 1, i), GAP);
            Due.is("x -10000", x.turning(0, 0, -MOST - 1, i), GAP);
        }
    }

    private static void hadWhat() {
        Due.by("Promise 10", "HAD what 0: REST, 1: damp");
        had(10, -8, 7, 0, 2, 11);
        had(10, -8, 7, 1, 5, 6);
    }

    private static void hadLowestTerms() {
        Due.by("Promise 10", "upper part (0), lower part (1; above 0), in lowest terms");
        // Lower parts that come out below 0 are turned about with the upper one.
        had(5, 3, 4, 1, 1, 2);
        had(0, -2, -3, 1, -1, 2);
        had(0, 2, 3, 1, -1, 2);
        had(3, 5, 4, 0, 13, 3);
        had(-3, -5, -4, 0, -13, 3);
        had(-3, 5, -3, 1, 1, 1);
        had(0, 4, 0, 0, 2, 1);
        had(0, -4, 0, 0, -2, 1);
    }

    private static void hadNone() {
        Due.by("Promise 10", "GAP if there is none");
        had(3, 2, 1, 0, GAP, GAP);
        had(2, 2, 1, 1, GAP, GAP);
    }

    private static void hadCantBe() {
        Due.by("Promise 10", "or one can't be.");
        LeadBalls x = new LeadBalls();
        for (int off : new int[] {-1, 2, Integer.MIN_VALUE, Integer.MAX_VALUE}) {
            Due.is("what " + off, x.had(10, -8, 7, off, 0), GAP);
            Due.is("part " + off, x.had(10, -8, 7, 0, off), GAP);
            Due.is("part " + off, x.had(10, -8, 7, 1, off), GAP);
        }
        Due.is("a", x.had(MOST + 1, 0, 1, 0, 0), GAP);
        Due.is("b", x.had(1, -MOST - 1, 1, 0, 0), GAP);
        Due.is("c", x.had(1, 0, MOST + 1, 1, 1), GAP);
    }
}
