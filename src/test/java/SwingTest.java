/** Promises 8 to 10: rest, turning, had. */
final class SwingTest {
    public static void main(String[] args) {
        rests();
        turningPoints();
        hadFromThree();
        Due.finish();
    }

    private static void rest(LeadBalls x, int side, int minute, long upper, long lower) {
        Due.fraction("rest(" + side + ", " + minute + ")", x.rest(side, minute, 0), x.rest(side, minute, 1), upper, lower);
    }

    private static void rests() {
        LeadBalls x = new LeadBalls();
        rest(x, 1, 0, 99, 1);
        rest(x, -1, 999, -99, 1);
        rest(x, 0, 999, 0, 1);
        Due.is("side -2", x.rest(-2, 0, 0), LeadBalls.GAP);
        Due.is("side 2", x.rest(2, 0, 0), LeadBalls.GAP);
        Due.is("minute -1", x.rest(0, -1, 0), LeadBalls.GAP);
        Due.is("minute 1000", x.rest(0, 1000, 0), LeadBalls.GAP);
        Due.is("part 2", x.rest(0, 0, 2), LeadBalls.GAP);
        Due.is("part -1", x.rest(0, 0, -1), LeadBalls.GAP);
        // PULL 2 * 3 * 1.001 * (1 / 4 - 1 / 9) = 1001 / 1200.
        Due.shed(x, "ball 3 near 2 far 3;wire 2;rod 1;", 3);
        rest(x, 1, 0, 1001, 1200);
        rest(x, -1, 0, -1001, 1200);
        // Iron draws on both sides alike, warmth with the side, creep with the minute.
        Due.shed(x, "zero 1;creep -3;warm 20;iron 300;", 4);
        rest(x, 1, 0, 1 + 300 + 20 + 99, 1);
        rest(x, -1, 0, 1 + 300 - 20 - 99, 1);
        rest(x, 0, 0, 1, 1);
        rest(x, 0, 1, 7, 10);
        rest(x, 0, 5, -1, 2);
        rest(x, 0, 999, -2987, 10);
        rest(x, 1, 10, 417, 1);
    }

    private static void turningPoints() {
        LeadBalls x = new LeadBalls();
        Due.is("point 1", x.turning(1, 0, 0, 1), 188);
        Due.is("point 2", x.turning(1, 0, 0, 2), 18);
        Due.is("point 0", x.turning(1, 0, 9999, 0), 9999);
        Due.is("point 0", x.turning(1, 0, -9999, 0), -9999);
        Due.is("x 10000", x.turning(1, 0, 10000, 0), LeadBalls.GAP);
        Due.is("x -10000", x.turning(1, 0, -10000, 0), LeadBalls.GAP);
        Due.is("i 20", x.turning(1, 0, 0, 20), LeadBalls.GAP);
        Due.is("i -1", x.turning(1, 0, 0, -1), LeadBalls.GAP);
        Due.is("side 2", x.turning(2, 0, 0, 0), LeadBalls.GAP);
        Due.is("minute 1000", x.turning(0, 1000, 0, 0), LeadBalls.GAP);
        Due.is("minute -1", x.turning(0, -1, 0, 0), LeadBalls.GAP);
        // Without loss it swings for ever; with all lost it rests at once.
        Due.shed(x, "damp 100;", 1);
        Due.is("damp 100, point 18", x.turning(0, 0, 500, 18), 500);
        Due.is("damp 100, point 19", x.turning(0, 0, 500, 19), -500);
        Due.shed(x, "damp 0;zero 3;", 2);
        Due.is("damp 0, point 1", x.turning(0, 0, 500, 1), 3);
        Due.is("damp 0, point 19", x.turning(0, 0, 500, 19), 3);
        // REST 1001 / 1200 is 834 thousandths; from 1: 834 - 166 * 0.9 = 684.6, down to 684, then 969; none of it is 1.
        Due.shed(x, "ball 3 near 2 far 3;wire 2;rod 1;", 3);
        Due.is("below 1", x.turning(1, 0, 1, 1), 0);
        Due.is("below 1", x.turning(1, 0, 1, 2), 0);
        // On the other side the REST is -835 thousandths, rounded down, not cut.
        Due.shed(x, "ball 3 near 2 far 3;wire 2;rod 1;damp 0;", 4);
        Due.is("rounded down", x.turning(-1, 0, 0, 1), -1);
        // -8 by fives is read as -10, 27 as 25.
        Due.shed(x, "reads 5;", 1);
        Due.is("read -8", x.turning(0, 0, -8, 0), -10);
        Due.is("read 27", x.turning(0, 0, 27, 0), 25);
        Due.is("read -10", x.turning(0, 0, -10, 0), -10);
        // Each one is rounded down by itself: REST 0, damp 33: 1000, -330, 108 (108.9), -36 (-35.64), 11 (11.88).
        Due.shed(x, "damp 33;", 1);
        Due.is("point 1", x.turning(0, 0, 1, 1), -1);
        Due.is("point 2", x.turning(0, 0, 1, 2), 0);
        // .. -4 (-3.63), 1 (1.32), -1 (-0.33), 0 (0.33), 0.
        Due.is("point 7", x.turning(0, 0, 1, 7), -1);
        Due.is("point 8", x.turning(0, 0, 1, 8), 0);
        Due.is("point 19", x.turning(0, 0, 1, 19), 0);
        Due.shed(x, "creep 999;zero 999;warm 999;iron 999;ball 99 near 1 far 99;wire 99;rod 99;damp 100;", 8);
        // REST 999 + 99800.1 + 999 + 999 + 10770.2 = 113567.3; twice that and 9999 is 237133.6.
        Due.is("far out", x.turning(1, 999, -9999, 1), 237133);
    }

    private static void had(int a, int b, int c, int what, long upper, long lower) {
        LeadBalls x = new LeadBalls();
        String call = "had(" + a + ", " + b + ", " + c + ", " + what + ")";
        Due.fraction(call, x.had(a, b, c, what, 0), x.had(a, b, c, what, 1), upper, lower);
    }

    private static void hadFromThree() {
        long gap = LeadBalls.GAP;
        had(0, 188, 18, 0, 17672, 179);
        had(0, 188, 18, 1, 85, 94);
        had(10, -10, 10, 0, 0, 1);
        had(10, -10, 10, 1, 1, 1);
        had(-3, 5, -3, 1, 1, 1);
        had(0, 2, 3, 0, 4, 1);
        had(0, 2, 3, 1, -1, 2);
        had(0, -2, -3, 1, -1, 2);
        had(5, 3, 3, 1, 0, 1);
        had(1, 2, 3, 0, gap, gap);
        had(1, 1, 3, 1, gap, gap);
        had(4, 4, 4, 0, gap, gap);
        had(4, 4, 4, 1, gap, gap);
        // One can be had where the other can't.
        had(1, 2, 3, 1, -1, 1);
        had(1, 1, 3, 0, 1, 1);
        had(9999, -9999, 9999, 0, 0, 1);
        had(-9999, 9999, 9999, 0, 9999, 1);
        had(9999, -9999, 9998, 0, -9999, 39995);
        LeadBalls x = new LeadBalls();
        Due.is("a", x.had(10000, 0, 1, 0, 0), gap);
        Due.is("a", x.had(-10000, 0, 1, 0, 0), gap);
        Due.is("b", x.had(1, 10000, 1, 0, 0), gap);
        Due.is("b", x.had(1, -10000, 1, 0, 0), gap);
        Due.is("c", x.had(1, 0, 10000, 0, 0), gap);
        Due.is("c", x.had(1, 0, -10000, 1, 0), gap);
        Due.is("what", x.had(1, 0, 1, 2, 0), gap);
        Due.is("what", x.had(1, 0, 1, -1, 0), gap);
        Due.is("part", x.had(1, 0, 1, 0, 2), gap);
        Due.is("part", x.had(1, 0, 1, 0, -1), gap);
    }
}
