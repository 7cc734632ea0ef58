/** Promises 11 to 16: reading, untell, later, fit, world, order. */
final class ReadingsTest {
    private static final long GAP = LeadBalls.GAP;
    private static final int NONE = LeadBalls.NONE;

    public static void main(String[] args) {
        tellingAndUntelling();
        twoTimes();
        times();
        fits();
        fitsWithIron();
        worlds();
        orders();
        Due.finish();
    }

    private static void tellingAndUntelling() {
        LeadBalls x = new LeadBalls();
        Due.is("minute 200", x.reading(200, 0, 0), NONE);
        Due.is("minute -1", x.reading(-1, 0, 0), NONE);
        Due.is("side 2", x.reading(0, 2, 0), NONE);
        Due.is("side -2", x.reading(0, -2, 0), NONE);
        Due.is("number 1000", x.reading(0, 0, 1000), NONE);
        Due.is("number -1000", x.reading(0, 0, -1000), NONE);
        Due.is("none yet", x.about(4), 0);
        Due.is("untell none", x.untell(0), false);
        Due.is("first", x.reading(0, -1, -999), 0);
        Due.is("second", x.reading(199, 1, 999), 1);
        Due.is("untell", x.untell(1), true);
        Due.is("untell again", x.untell(1), false);
        Due.is("untell -1", x.untell(-1), false);
        Due.is("untell 2", x.untell(2), false);
        for (int n = 2; n < 40; n++) {
            Due.is("reading", x.reading(n, 0, n), n);
        }
        Due.is("41st", x.reading(0, 0, 0), NONE);
        Due.is("forty", x.about(4), 40);
        Due.is("untell last", x.untell(39), true);
        Due.is("41st, one untold", x.reading(0, 0, 0), NONE);
    }

    private static void twoTimes() {
        LeadBalls x = new LeadBalls();
        x.later(5);
        x.reading(0, 1, 10);
        x.reading(0, -1, 4);
        Due.is("before", x.fit(0, 0, 0, 4), GAP);
        Due.is("then", x.fit(0, 0, 0, 5), 7);
        Due.is("later than now", x.fit(0, 0, 0, Integer.MAX_VALUE), 7);
        Due.is("long before", x.fit(0, 0, 0, Integer.MIN_VALUE), GAP);
        Due.is("told and untold at one time", x.reading(0, 1, 100), 2);
        x.untell(2);
        Due.is("never counted", x.fit(0, 0, 0, 5), 7);
        x.later(2);
        x.reading(0, 0, 10);
        Due.is("as known then", x.fit(0, 0, 0, 6), 7);
        Due.is("as known now", x.fit(0, 0, 0, 7), 8);
        x.later(2);
        x.untell(0);
        Due.is("as known at 8", x.fit(0, 1, 0, 8), 3);
        Due.is("as known at 9", x.fit(0, 1, 0, 9), 6);
        Due.is("as known after", x.fit(0, 1, 0, 100000), 6);
    }

    private static void times() {
        LeadBalls x = new LeadBalls();
        Due.is("later(0)", x.later(0), 0);
        Due.is("later(-1)", x.later(-1), NONE);
        Due.is("later(1001)", x.later(1001), NONE);
        Due.is("later(MAX)", x.later(Integer.MAX_VALUE), NONE);
        for (int n = 1; n <= 99; n++) {
            Due.is("later(1000)", x.later(1000), 1000 * n);
        }
        Due.is("later(999)", x.later(999), 99999);
        Due.is("later(2)", x.later(2), NONE);
        Due.is("time", x.about(5), 99999);
        Due.is("later(1)", x.later(1), 100000);
        Due.is("later(1)", x.later(1), NONE);
        Due.is("later(0)", x.later(0), 100000);
    }

    private static void fit(LeadBalls x, int mode, int what, long upper, long lower) {
        Due.fraction("fit(" + mode + ", " + what + ")", x.fit(mode, what, 0, 0), x.fit(mode, what, 1, 0), upper, lower);
    }

    private static void fits() {
        LeadBalls x = new LeadBalls();
        Due.is("none", x.fit(0, 2, 0, 0), GAP);
        x.reading(0, 1, 10);
        Due.is("one", x.fit(0, 0, 0, 0), GAP);
        Due.is("one, c", x.fit(0, 2, 1, 0), GAP);
        x.reading(10, -1, 2);
        x.reading(20, 1, 12);
        fit(x, 0, 0, 13, 2);
        fit(x, 0, 1, 9, 2);
        fit(x, 0, 2, 0, 1);
        fit(x, 0, 3, 0, 1);
        fit(x, 0, 4, 1, 1);
        fit(x, 1, 0, 11, 2);
        fit(x, 1, 1, 9, 2);
        fit(x, 1, 2, 1, 10);
        fit(x, 1, 3, 0, 1);
        fit(x, 1, 4, 0, 1);
        Due.is("mode 2", x.fit(2, 0, 0, 0), GAP);
        Due.is("mode 2, off", x.fit(2, 4, 0, 0), GAP);
        Due.is("mode 3", x.fit(3, 0, 0, 0), GAP);
        Due.is("mode -1", x.fit(-1, 0, 0, 0), GAP);
        Due.is("what 5", x.fit(0, 5, 0, 0), GAP);
        Due.is("what -1", x.fit(0, -1, 0, 0), GAP);
        Due.is("part 2", x.fit(0, 0, 2, 0), GAP);
        Due.is("part -1", x.fit(0, 0, -1, 0), GAP);
        x.reading(30, 0, -50);
        // 4 * zero + g = -26, zero + 3 * g = 20.
        fit(x, 0, 0, -98, 11);
        fit(x, 0, 1, 106, 11);
        fit(x, 0, 4, 452, 11);
    }

    private static void fitsWithIron() {
        LeadBalls x = new LeadBalls();
        // number = 3 + 5 * side - 2 * minute + 7 * side * side.
        for (int m = 0; m < 6; m++) {
            int side = m % 3 - 1;
            x.reading(m, side, 3 + 5 * side - 2 * m + 7 * side * side);
        }
        fit(x, 2, 0, 3, 1);
        fit(x, 2, 1, 5, 1);
        fit(x, 2, 2, -2, 1);
        fit(x, 2, 3, 7, 1);
        fit(x, 2, 4, 0, 1);
        x.reading(6, 0, 0);
        Due.is("one does not fit any more", x.fit(2, 4, 0, 0) > 0, true);
        // Sides of -1 and 1 alone do not tell iron from zero.
        LeadBalls y = new LeadBalls();
        for (int m = 0; m < 8; m++) {
            y.reading(m * m, m % 2 * 2 - 1, m);
        }
        Due.is("iron not told", y.fit(2, 0, 0, 0), GAP);
        Due.is("creep told", y.fit(1, 0, 0, 0) != GAP, true);
        // All in one minute do not tell creep from zero.
        LeadBalls z = new LeadBalls();
        z.reading(9, -1, 1);
        z.reading(9, 0, 5);
        z.reading(9, 1, 6);
        Due.is("creep not told", z.fit(1, 0, 0, 0), GAP);
        fit(z, 0, 0, 4, 1);
        fit(z, 0, 1, 5, 2);
        fit(z, 0, 4, 1, 1);
    }

    private static void worlds() {
        LeadBalls x = new LeadBalls();
        Due.is("no readings", x.world(0), NONE);
        x.reading(0, 1, 10);
        x.reading(10, -1, 2);
        Due.is("two readings", x.world(0), NONE);
        x.reading(20, 1, 12);
        // PULL 99, G 4500.
        Due.is("world", x.world(0), 2200);
        Due.is("before", x.world(-1), NONE);
        Due.shed(x, "ball 3 near 2 far 3;wire 2;rod 1;", 3);
        // 1001 / 1200 * 100000 / 4500 = 18.537
        Due.is("world", x.world(0), 18);
        LeadBalls y = new LeadBalls();
        y.reading(0, 1, 2);
        y.reading(10, -1, 10);
        y.reading(20, 1, 2);
        Due.is("g below 0", y.world(0), NONE);
        LeadBalls z = new LeadBalls();
        z.reading(0, 1, 5);
        z.reading(10, -1, 5);
        z.reading(20, 1, 5);
        Due.is("g 0", z.world(0), NONE);
        // g 1 / 3 is 333 thousandths, rounded down: 9900000 / 333 = 29729.7.
        LeadBalls w = new LeadBalls();
        w.reading(0, -1, 0);
        w.reading(0, 1, 1);
        w.reading(0, 1, 0);
        w.reading(0, 1, 1);
        w.reading(1, 0, 1);
        w.reading(1, 0, 0);
        Due.is("g", w.fit(1, 1, 0, 0), 1);
        Due.is("g", w.fit(1, 1, 1, 0), 3);
        Due.is("world", w.world(0), 29729);
    }

    private static void orders() {
        LeadBalls x = new LeadBalls();
        Due.is("order(2)", x.order(2), 1);
        Due.is("order(4)", x.order(4), 9);
        Due.is("order(8)", x.order(8), 105);
        for (int n = 2; n <= 12; n += 2) {
            Due.is("order(" + n + ")", x.order(n), slowOrder(n));
            Due.is("order(" + n + ") again", x.order(n), slowOrder(n));
        }
        for (int n : new int[] {-2, 0, 1, 3, 5, 7, 9, 11, 13, 14, Integer.MAX_VALUE, Integer.MIN_VALUE}) {
            Due.is("order(" + n + ")", x.order(n), NONE);
        }
    }

    private static int slowOrder(int n) {
        int best = NONE;
        for (int bits = (1 << n) - 1; bits > 0; bits--) {
            if ((bits & 1) == 1 && Integer.bitCount(bits) == n / 2 && (best == NONE || noWorse(bits, best, n))) {
                best = bits;
            }
        }
        return best;
    }

    private static boolean noWorse(int a, int b, int n) {
        for (int power = 1; power <= 3; power++) {
            int by = Integer.compare(size(a, n, power), size(b, n, power));
            if (by != 0) {
                return by < 0;
            }
        }
        return true;
    }

    private static int size(int bits, int n, int power) {
        double sum = 0;
        for (int j = 0; j < n; j++) {
            sum += ((bits >> j & 1) * 2 - 1) * Math.pow(j, power);
        }
        return (int) Math.round(Math.abs(sum));
    }
}
