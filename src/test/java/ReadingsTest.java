/** READINGS, FIT, WORLD and ORDER (Terms, part 3) and promises 11 to 16: reading, untell, later, fit, world, order. */
final class ReadingsTest {
    private static final long GAP = LeadBalls.GAP;
    private static final int NONE = LeadBalls.NONE;
    private static final int[] FAR_OUT = {Integer.MIN_VALUE, Integer.MAX_VALUE};

    public static void main(String[] args) {
        fortyAtMost();
        timeGoesOn();
        untoldAtSameOrLater();
        minutes();
        sides();
        numbers();
        toldAtOrBefore();
        notUntoldAtOrBefore();
        zeroAndPull();
        creepToo();
        ironToo();
        leastSquares();
        moreThanOneSet();
        off();
        worldRoundedDown();
        pullRoundedDown();
        pullNotAboveNothing();
        ordersBounds();
        ordersRows();
        ordersLeastSum();
        ordersOfLikeOnes();
        ordersLeastNumber();
        readingsNumber();
        readingRefused();
        untellTrue();
        untellFalse();
        laterTime();
        laterRefused();
        fitWhat();
        fitLowestTerms();
        fitGap();
        world();
        worldNone();
        order();
        orderNone();
        Due.finish();
    }

    /** A new object with readings, each minute, side, number. */
    private static LeadBalls told(int... threes) {
        LeadBalls x = new LeadBalls();
        for (int i = 0; i + 2 < threes.length; i += 3) {
            Due.is("reading", x.reading(threes[i], threes[i + 1], threes[i + 2]), i / 3);
        }
        return x;
    }

    private static void fit(LeadBalls x, int mode, int what, long upper, long lower) {
        Due.fraction("fit(" + mode + ", " + what + ")", x.fit(mode, what, 0, x.about(5)), x.fit(mode, what, 1, x.about(5)), upper, lower);
    }

    private static void none(LeadBalls x, int mode) {
        for (int what = 0; what <= 4; what++) {
            fit(x, mode, what, GAP, GAP);
        }
    }

    private static void fortyAtMost() {
        Due.by("Terms 3", "READINGS, 40 at most");
        LeadBalls x = new LeadBalls();
        for (int n = 0; n < 39; n++) {
            Due.is("reading", x.reading(n, 0, 0), n);
        }
        Due.is("the fortieth", x.reading(199, 1, 999), 39);
        Due.is("the forty-first", x.reading(0, 0, 0), NONE);
        Due.is("forty", x.about(4), 40);
        // All forty count.
        fit(x, 0, 1, 999, 1);
        // One that is untold does not make room.
        Due.is("untell", x.untell(39), true);
        Due.is("the forty-first", x.reading(0, 0, 0), NONE);
        x.later(5);
        Due.is("the forty-first, later", x.reading(0, 0, 0), NONE);
        Due.is("forty", x.about(4), 40);
    }

    private static void timeGoesOn() {
        Due.by("Terms 3", "are TOLD at a TIME (0 at first, goes on)");
        LeadBalls x = told(0, -1, 1, 0, 1, 5);
        Due.is("at first", x.about(5), 0);
        Due.is("told at 0", x.fit(0, 0, 0, 0), 3);
        Due.is("not before", x.fit(0, 0, 0, -1), GAP);
        x.later(4);
        x.reading(0, -1, 1);
        x.reading(0, 1, 9);
        Due.is("as known at 0", x.fit(0, 0, 0, 0), 3);
        Due.is("as known at 3", x.fit(0, 0, 0, 3), 3);
        Due.is("as known at 4", x.fit(0, 0, 0, 4), 4);
        Due.is("it does not go back", x.later(-1), NONE);
        Due.is("time", x.about(5), 4);
    }

    private static void untoldAtSameOrLater() {
        Due.by("Terms 3", "UNTOLD at a later one or the same");
        LeadBalls x = told(0, -1, 1, 0, 1, 5, 0, 1, 100);
        Due.is("at the same", x.untell(2), true);
        Due.is("so it never counts", x.fit(0, 0, 0, 0), 3);
        x.reading(0, 1, 9);
        x.later(1);
        Due.is("at a later one", x.untell(3), true);
        Due.is("so it counted at 0", x.fit(0, 0, 0, 0), 4);
        Due.is("and not at 1", x.fit(0, 0, 0, 1), 3);
    }

    private static void minutes() {
        Due.by("Terms 3", "MINUTE (0 .. 199)");
        LeadBalls x = told(0, 0, 0, 199, 0, 199, 0, 1, 5);
        fit(x, 1, 2, 1, 1);
        for (int minute : new int[] {-1, 200, 999, FAR_OUT[0], FAR_OUT[1]}) {
            Due.is("in " + minute, x.reading(minute, 0, 0), NONE);
        }
        Due.is("three", x.about(4), 3);
    }

    private static void sides() {
        Due.by("Terms 3", "SIDE");
        LeadBalls x = told(0, -1, 1, 0, 0, 5, 0, 1, 9);
        fit(x, 0, 1, 4, 1);
        for (int side : new int[] {-2, 2, FAR_OUT[0], FAR_OUT[1]}) {
            Due.is("on " + side, x.reading(0, side, 0), NONE);
        }
        Due.is("three", x.about(4), 3);
    }

    private static void numbers() {
        Due.by("Terms 3", "a number (-999 .. 999).");
        LeadBalls x = told(0, 0, -999, 0, 1, 999);
        fit(x, 0, 0, -999, 1);
        fit(x, 0, 1, 1998, 1);
        for (int number : new int[] {-1000, 1000, FAR_OUT[0], FAR_OUT[1]}) {
            Due.is("number " + number, x.reading(0, 0, number), NONE);
        }
        Due.is("two", x.about(4), 2);
    }

    private static void toldAtOrBefore() {
        Due.by("Terms 3", "As known at k those count that were TOLD at k or before");
        LeadBalls x = new LeadBalls();
        x.later(5);
        x.reading(0, 1, 10);
        x.reading(0, -1, 4);
        Due.is("at 4", x.fit(0, 0, 0, 4), GAP);
        Due.is("at 5", x.fit(0, 0, 0, 5), 7);
        Due.is("at 6", x.fit(0, 0, 0, 6), 7);
        Due.is("far later than now", x.fit(0, 0, 0, Integer.MAX_VALUE), 7);
        Due.is("far before", x.fit(0, 0, 0, Integer.MIN_VALUE), GAP);
        x.later(2);
        x.reading(0, 0, 10);
        Due.is("at 6", x.fit(0, 0, 0, 6), 7);
        Due.is("at 7", x.fit(0, 0, 0, 7), 8);
    }

    private static void notUntoldAtOrBefore() {
        Due.by("Terms 3", "not UNTOLD at k or before.");
        LeadBalls x = told(0, 1, 10, 0, -1, 4, 0, 0, 10);
        x.later(9);
        x.untell(0);
        Due.is("at 0", x.fit(0, 1, 0, 0), 3);
        Due.is("at 8", x.fit(0, 1, 0, 8), 3);
        Due.is("at 9", x.fit(0, 1, 0, 9), 6);
        Due.is("at 10", x.fit(0, 1, 0, 10), 6);
        Due.is("far later", x.fit(0, 1, 0, Integer.MAX_VALUE), 6);
        // What is untold and what is told change each by itself.
        x.reading(0, 1, 20);
        Due.is("at 9", x.fit(0, 1, 0, 9), 8);
        Due.is("at 8", x.fit(0, 1, 0, 8), 3);
    }

    private static void zeroAndPull() {
        Due.by("Terms 3", "FIT of a MODE: 0: zero and g");
        LeadBalls x = told(0, 1, 10, 10, -1, 2, 20, 1, 12);
        fit(x, 0, 0, 13, 2);
        fit(x, 0, 1, 9, 2);
    }

    private static void creepToo() {
        Due.by("Terms 3", "1: zero, g and c");
        LeadBalls x = told(0, 1, 10, 10, -1, 2, 20, 1, 12);
        fit(x, 1, 0, 11, 2);
        fit(x, 1, 1, 9, 2);
        fit(x, 1, 2, 1, 10);
    }

    private static void ironToo() {
        Due.by("Terms 3", "2: zero, g, c and i");
        LeadBalls x = new LeadBalls();
        for (int m = 0; m < 6; m++) {
            int side = m % 3 - 1;
            x.reading(m, side, 3 + 5 * side - 2 * m + 7 * side * side);
        }
        fit(x, 2, 0, 3, 1);
        fit(x, 2, 1, 5, 1);
        fit(x, 2, 2, -2, 1);
        fit(x, 2, 3, 7, 1);
        fit(x, 2, 4, 0, 1);
    }

    private static void leastSquares() {
        Due.by("Terms 3", "those by which the sum of squares of number - (zero + SIDE * g + m * c + SIDE * SIDE * i) is least");
        // 4 * zero + g = -26, zero + 3 * g = 20.
        LeadBalls x = told(0, 1, 10, 10, -1, 2, 20, 1, 12, 30, 0, -50);
        fit(x, 0, 0, -98, 11);
        fit(x, 0, 1, 106, 11);
        // Forty as far out as can be: zero, g, c and i are known, and the greatest sums still come out exactly.
        LeadBalls far = new LeadBalls();
        for (int n = 0; n < 40; n++) {
            int side = n % 3 - 1;
            int minute = n / 3 % 2 * 199;
            far.reading(minute, side, 1 + 300 * side - 4 * minute + 98 * side * side);
        }
        fit(far, 2, 0, 1, 1);
        fit(far, 2, 1, 300, 1);
        fit(far, 2, 2, -4, 1);
        fit(far, 2, 3, 98, 1);
        fit(far, 2, 4, 0, 1);
        // Twenty of 999 and twenty of -999, ten of each on each side: by c alone they differ.
        LeadBalls wide = new LeadBalls();
        for (int n = 0; n < 40; n++) {
            wide.reading(n % 2 * 199, n / 2 % 2 * 2 - 1, n % 2 == 0 ? 999 : -999);
        }
        fit(wide, 1, 0, 999, 1);
        fit(wide, 1, 1, 0, 1);
        fit(wide, 1, 2, -1998, 199);
        fit(wide, 1, 4, 0, 1);
        fit(wide, 0, 0, 0, 1);
        fit(wide, 0, 4, 999, 1);
    }

    private static void moreThanOneSet() {
        Due.by("Terms 3", "none if more than one set does it.");
        for (int mode = 0; mode <= 2; mode++) {
            none(new LeadBalls(), mode);
            none(told(5, 1, 10), mode);
        }
        // One side alone does not tell zero from g.
        none(told(0, 1, 5, 9, 1, 6, 10, 1, 7), 0);
        none(told(0, -1, 5, 9, -1, 6, 10, -1, 7), 0);
        none(told(0, 0, 5, 9, 0, 6, 10, 0, 7), 0);
        fit(told(0, 0, 5, 0, 1, 6), 0, 1, 1, 1);
        // Two of them, all in one minute, or minutes that go with the sides do not tell c.
        none(told(0, 1, 5, 9, 0, 6), 1);
        none(told(9, -1, 1, 9, 0, 5, 9, 1, 6), 1);
        none(told(0, -1, 1, 5, 0, 5, 10, 1, 6), 1);
        fit(told(0, -1, 1, 5, 0, 5, 11, 1, 6), 1, 1, 19, 1);
        // Three of them, two sides alone, or minutes that go with the sides do not tell i.
        none(told(0, -1, 1, 6, 0, 5, 10, 1, 6), 2);
        LeadBalls away = new LeadBalls();
        LeadBalls one = new LeadBalls();
        LeadBalls bound = new LeadBalls();
        for (int m = 0; m < 8; m++) {
            away.reading(m * m, m % 2 * 2 - 1, m);
            one.reading(m * m, m % 2, m);
            bound.reading(m % 3 * (m % 3), m % 3 - 1, m);
        }
        none(away, 2);
        none(one, 2);
        none(bound, 2);
        Due.is("c is told", away.fit(1, 0, 0, 0) != GAP, true);
        fit(told(0, -1, 1, 6, 0, 5, 10, 1, 6, 20, 1, 16), 2, 2, 1, 1);
        // Those that do not count tell nothing.
        LeadBalls x = told(0, -1, 1, 0, 1, 5);
        x.untell(1);
        none(x, 0);
    }

    private static void off() {
        Due.by("Terms 3", "OFF: the greatest that a number is off by it, either way.");
        // zero 4, g 2.5: off by 0.5 - 1 + 0.5.
        fit(told(9, -1, 1, 9, 0, 5, 9, 1, 6), 0, 4, 1, 1);
        fit(told(9, -1, 2, 9, 0, 1, 9, 1, 3), 0, 4, 1, 1);
        fit(told(0, 1, 10, 10, -1, 2, 20, 1, 12, 30, 0, -50), 0, 4, 452, 11);
        fit(told(0, 1, 10, 10, -1, 2, 20, 1, 12, 30, 0, 63), 0, 4, 452, 11);
        fit(told(0, 1, 10, 10, -1, 2, 20, 1, 12), 1, 4, 0, 1);
        // The farthest off may be the first.
        fit(told(30, 0, -50, 0, 1, 10, 10, -1, 2, 20, 1, 12), 0, 4, 452, 11);
        // Or the fortieth: 38 of 0 and one of 390 on one side are 10 in the mean.
        LeadBalls forty = told(0, 0, 0);
        for (int n = 1; n < 40; n++) {
            forty.reading(0, 1, n == 39 ? 390 : 0);
        }
        fit(forty, 0, 1, 10, 1);
        fit(forty, 0, 4, 380, 1);
        // Only those that count.
        LeadBalls x = told(0, 1, 10, 0, -1, 2, 0, 0, 999);
        x.later(1);
        x.untell(2);
        fit(x, 0, 4, 0, 1);
    }

    private static void worldRoundedDown() {
        Due.by("Terms 3", "WORLD: PULL * 100000 / G (rounded down)");
        // PULL 99, G 4500.
        LeadBalls x = told(0, 1, 10, 10, -1, 2, 20, 1, 12);
        Due.is("world", x.world(0), 2200);
        // 1001 / 1200 * 100000 / 4500 = 18.54.
        Due.shed(x, "ball 3 near 2 far 3;wire 2;rod 1;", 3);
        Due.is("18.54", x.world(0), 18);
        // PULL 3 / 4 * 12 = 9 comes to 200 exactly.
        Due.shed(x, "ball 3 near 1 far 2;wire 4;", 2);
        Due.is("200", x.world(0), 200);
        // The least PULL, 41 / 176400, by the greatest g: 0, which is a number.
        LeadBalls y = told(0, 1, 999, 1, 1, 999, 0, -1, -999);
        Due.shed(y, "ball 1 near 20 far 21;wire 1;", 2);
        Due.is("less than 1", y.world(0), 0);
        // The greatest PULL: 99 * 99 * 1.099 * 9800 / 9801 = 10770.2, G 999000.
        Due.shed(y, "ball 99 near 1 far 99;wire 99;rod 99;", 3);
        Due.is("1078.09", y.world(0), 1078);
    }

    private static void pullRoundedDown() {
        Due.by("Terms 3", "G: g * 1000 of MODE 1, rounded down: in hundredths of water");
        // g 1 / 3 is 333 thousandths: 9900000 / 333 = 29729.7.
        LeadBalls x = told(0, -1, 0, 0, 1, 1, 0, 1, 0, 0, 1, 1, 1, 0, 1, 1, 0, 0);
        fit(x, 1, 1, 1, 3);
        Due.is("29729.7", x.world(0), 29729);
        // g 2 / 3 is 666: 9900000 / 666 = 14864.9.
        LeadBalls y = told(0, 1, 1, 0, 1, 1, 0, 1, 0, 0, -1, -1, 0, -1, -1, 0, -1, 0, 1, 0, 0);
        fit(y, 1, 1, 2, 3);
        Due.is("14864.9", y.world(0), 14864);
        // Of MODE 1, by which g is 4; by MODE 0 it would be 1.
        LeadBalls z = told(0, -1, 0, 1, 0, 2, 3, 1, 2);
        fit(z, 0, 1, 1, 1);
        fit(z, 1, 1, 4, 1);
        Due.is("of mode 1", z.world(0), 2475);
    }

    private static void pullNotAboveNothing() {
        Due.by("Terms 3", "none if G is not above 0.");
        LeadBalls below = told(0, 1, 2, 10, -1, 10, 20, 1, 2);
        fit(below, 1, 1, -4, 1);
        Due.is("g -4", below.world(0), NONE);
        LeadBalls nothing = told(0, 1, 5, 10, -1, 5, 20, 1, 5);
        fit(nothing, 1, 1, 0, 1);
        Due.is("g 0", nothing.world(0), NONE);
        // g is above 0, but G is 0.
        LeadBalls little = told(20, 1, -1, 3, -1, -3, 35, 0, -9, 18, -1, 3);
        fit(little, 1, 1, 2, 2179);
        Due.is("G 0", little.world(0), NONE);
        LeadBalls least = told(26, 0, 10, 7, -1, -8, 6, -1, 1, 24, 1, 8);
        fit(least, 1, 1, 1, 930);
        Due.is("G 1", least.world(0), 9900000);
    }

    private static void ordersBounds() {
        Due.by("Terms 3", "ORDER of n (2 .. 12, even)");
        LeadBalls x = new LeadBalls();
        for (int n = -3; n <= 15; n++) {
            boolean can = n >= 2 && n <= 12 && n % 2 == 0;
            Due.is("order(" + n + ") is there", x.order(n) != NONE, can);
        }
    }

    private static void ordersRows() {
        Due.by("Terms 3", "rows of n SIDES, as many -1 as 1, the first 1 (as bits: 1, bit j for place j)");
        LeadBalls x = new LeadBalls();
        for (int n = 2; n <= 12; n += 2) {
            int row = x.order(n);
            Due.is("of n places", row > 0 && row < 1 << n, true);
            Due.is("as many", Integer.bitCount(row), n / 2);
            Due.is("the first 1", row & 1, 1);
        }
        Due.is("order(2)", x.order(2), 1);
    }

    /** Of all rows that can be, how many have these sums no greater, in the order in which they count. */
    private static int noWorse(int n, int row, int sums) {
        int count = 0;
        for (int bits = 0; bits < 1 << n; bits++) {
            if ((bits & 1) == 1 && Integer.bitCount(bits) == n / 2 && compare(bits, row, n, sums) <= 0) {
                count++;
            }
        }
        return count;
    }

    private static int compare(int a, int b, int n, int sums) {
        for (int power = 1; power <= sums; power++) {
            int by = Integer.compare(size(a, n, power), size(b, n, power));
            if (by != 0) {
                return by;
            }
        }
        return 0;
    }

    private static int size(int bits, int n, int power) {
        double sum = 0;
        for (int j = 0; j < n; j++) {
            sum += ((bits >> j & 1) * 2 - 1) * Math.pow(j, power);
        }
        return (int) Math.round(Math.abs(sum));
    }

    private static void ordersLeastSum() {
        Due.by("Terms 3", "that by which the sum of SIDE * j is least (its size)");
        LeadBalls x = new LeadBalls();
        Due.is("order(4)", x.order(4), 9);
        for (int n = 2; n <= 12; n += 2) {
            // The sum of all places is odd for 2, 6 and 10, so there 1 is left.
            Due.is("its size for " + n, size(x.order(n), n, 1), n % 4 / 2);
        }
    }

    private static void ordersOfLikeOnes() {
        Due.by("Terms 3", "of like ones that of SIDE * j * j, then of SIDE * j * j * j");
        LeadBalls x = new LeadBalls();
        Due.is("order(6)", x.order(6), 37);
        Due.is("order(8)", x.order(8), 105);
        Due.is("order(10)", x.order(10), 601);
        Due.is("order(12)", x.order(12), 1477);
        for (int n = 2; n <= 12; n += 2) {
            Due.is("none but it is as good for " + n, noWorse(n, x.order(n), 3), 1);
        }
    }

    private static void ordersLeastNumber() {
        Due.by("Terms 3", "then the least number.");
        LeadBalls x = new LeadBalls();
        for (int n = 2; n <= 12; n += 2) {
            int least = 0;
            for (int bits = (1 << n) - 1; bits > 0; bits -= 2) {
                if (Integer.bitCount(bits) == n / 2 && (least == 0 || compare(bits, least, n, 3) <= 0)) {
                    least = bits;
                }
            }
            Due.is("order(" + n + ")", x.order(n), least);
        }
    }

    private static void readingsNumber() {
        Due.by("Promise 11", "A READING: its number");
        LeadBalls x = new LeadBalls();
        Due.is("first", x.reading(0, -1, -999), 0);
        Due.is("second, the same", x.reading(0, -1, -999), 1);
        x.untell(1);
        Due.is("third", x.reading(199, 1, 999), 2);
        Due.is("three", x.about(4), 3);
    }

    private static void readingRefused() {
        Due.by("Promise 11", "NONE, doing nothing, if one can't be, or there are 40.");
        LeadBalls x = told(0, -1, 1, 0, 1, 5);
        for (int off : new int[] {-1, 200}) {
            Due.is("minute " + off, x.reading(off, 0, 0), NONE);
        }
        for (int off : new int[] {-2, 2}) {
            Due.is("side " + off, x.reading(0, off, 0), NONE);
        }
        for (int off : new int[] {-1000, 1000}) {
            Due.is("number " + off, x.reading(0, 0, off), NONE);
        }
        Due.is("nothing is done", x.about(4), 2);
        fit(x, 0, 0, 3, 1);
        for (int n = 2; n < 40; n++) {
            Due.is("reading", x.reading(0, n % 2 * 2 - 1, n % 2 * 4 + 1), n);
        }
        Due.is("there are 40", x.reading(0, 0, 999), NONE);
        Due.is("nothing is done", x.about(4), 40);
        fit(x, 0, 0, 3, 1);
    }

    private static void untellTrue() {
        Due.by("Promise 12", "It is UNTOLD: true");
        LeadBalls x = told(0, -1, 1, 0, 1, 5, 0, 1, 9);
        Due.is("the first", x.untell(0), true);
        none(x, 0);
        LeadBalls y = told(0, -1, 1, 0, 1, 5, 0, 1, 9);
        Due.is("the last", y.untell(2), true);
        fit(y, 0, 0, 3, 1);
        LeadBalls z = new LeadBalls();
        for (int n = 0; n < 40; n++) {
            z.reading(0, n % 2, n);
        }
        Due.is("the fortieth", z.untell(39), true);
        Due.is("the forty-first", z.untell(40), false);
    }

    private static void untellFalse() {
        Due.by("Promise 12", "false if it is so already, or there is none such.");
        LeadBalls x = new LeadBalls();
        Due.is("none told", x.untell(0), false);
        x.reading(0, -1, 1);
        x.reading(0, 1, 5);
        for (int n : new int[] {-1, 2, 40, FAR_OUT[0], FAR_OUT[1]}) {
            Due.is("untell " + n, x.untell(n), false);
        }
        x.later(3);
        Due.is("at 3", x.untell(1), true);
        Due.is("again", x.untell(1), false);
        x.later(3);
        Due.is("again at 6", x.untell(1), false);
        // So the first time stays.
        Due.is("as known at 2", x.fit(0, 0, 0, 2), 3);
        Due.is("as known at 3", x.fit(0, 0, 0, 3), GAP);
        // Untold at 0 is untold, too.
        LeadBalls y = told(0, 0, 0);
        Due.is("at 0", y.untell(0), true);
        Due.is("again at 0", y.untell(0), false);
    }

    private static void laterTime() {
        Due.by("Promise 13", "So much later (0 .. 1000): the TIME");
        LeadBalls x = new LeadBalls();
        Due.is("later(0)", x.later(0), 0);
        Due.is("later(1)", x.later(1), 1);
        Due.is("later(0)", x.later(0), 1);
        Due.is("later(999)", x.later(999), 1000);
        Due.is("later(1000)", x.later(1000), 2000);
        Due.is("about(5)", x.about(5), 2000);
    }

    private static void laterRefused() {
        Due.by("Promise 13", "NONE, doing nothing, for another number, or if it would be above 100,000.");
        LeadBalls x = new LeadBalls();
        for (int by : new int[] {-1, 1001, FAR_OUT[0], FAR_OUT[1]}) {
            Due.is("later(" + by + ")", x.later(by), NONE);
        }
        Due.is("nothing is done", x.about(5), 0);
        for (int n = 1; n <= 99; n++) {
            Due.is("later(1000)", x.later(1000), 1000 * n);
        }
        Due.is("later(999)", x.later(999), 99999);
        Due.is("later(2)", x.later(2), NONE);
        Due.is("later(1000)", x.later(1000), NONE);
        Due.is("nothing is done", x.about(5), 99999);
        Due.is("later(1)", x.later(1), 100000);
        Due.is("later(1)", x.later(1), NONE);
        Due.is("later(-1)", x.later(-1), NONE);
        Due.is("later(0)", x.later(0), 100000);
        // Readings are told and untold at the last TIME as at any.
        x.reading(0, 0, 5);
        x.reading(0, 1, 6);
        Due.is("told", x.fit(0, 0, 0, 100000), 5);
        Due.is("not before", x.fit(0, 0, 0, 99999), GAP);
        Due.is("untold", x.untell(1), true);
        Due.is("so none", x.fit(0, 0, 0, 100000), GAP);
    }

    private static void fitWhat() {
        Due.by("Promise 14", "FIT of a MODE what 0: zero, 1: g, 2: c, 3: i (0 / 1 if the MODE has none), 4: OFF");
        LeadBalls x = told(0, -1, 1, 6, 0, 5, 10, 1, 6, 20, 1, 16);
        fit(x, 2, 0, -1, 1);
        fit(x, 2, 1, -5, 2);
        fit(x, 2, 2, 1, 1);
        fit(x, 2, 3, -1, 2);
        fit(x, 2, 4, 0, 1);
        fit(x, 1, 3, 0, 1);
        fit(x, 0, 3, 0, 1);
        fit(x, 0, 2, 0, 1);
        Due.is("c of mode 1 is not 0", x.fit(1, 2, 0, 0) != 0, true);
        // Where there is no FIT, what the MODE has not is not there either.
        none(told(0, 1, 5), 0);
        none(told(0, 1, 5, 0, 0, 5), 1);
    }

    private static void fitLowestTerms() {
        Due.by("Promise 14", "upper part (0), lower part (1), in lowest terms");
        fit(told(0, -1, 1, 0, 1, 5), 0, 0, 3, 1);
        fit(told(0, -1, -1, 0, 1, -5), 0, 0, -3, 1);
        fit(told(0, -1, 1, 0, 1, 4), 0, 0, 5, 2);
        fit(told(0, -1, -1, 0, 1, -4), 0, 0, -5, 2);
        fit(told(0, -1, -1, 0, 1, 1), 0, 0, 0, 1);
        fit(told(0, 1, 2, 0, 1, 4, 0, 0, 0), 0, 1, 3, 1);
        fit(told(0, 1, 2, 0, 1, 4, 0, 0, 0), 0, 4, 1, 1);
    }

    private static void fitGap() {
        Due.by("Promise 14", "GAP if there is none, or one can't be.");
        LeadBalls x = told(0, -1, 1, 6, 0, 5, 10, 1, 6, 20, 1, 16);
        for (int off : FAR_OUT) {
            Due.is("mode", x.fit(off, 0, 0, 0), GAP);
            Due.is("what", x.fit(0, off, 0, 0), GAP);
            Due.is("part", x.fit(0, 0, off, 0), GAP);
        }
        for (int part = 0; part <= 1; part++) {
            Due.is("mode -1", x.fit(-1, 0, part, 0), GAP);
            Due.is("mode 3", x.fit(3, 0, part, 0), GAP);
            for (int mode = 0; mode <= 2; mode++) {
                Due.is("what -1", x.fit(mode, -1, part, 0), GAP);
                Due.is("what 5", x.fit(mode, 5, part, 0), GAP);
            }
        }
        for (int what = 0; what <= 4; what++) {
            Due.is("part -1", x.fit(2, what, -1, 0), GAP);
            Due.is("part 2", x.fit(2, what, 2, 0), GAP);
            Due.is("before any", x.fit(2, what, 0, -1), GAP);
        }
    }

    private static void world() {
        Due.by("Promise 15", "WORLD");
        LeadBalls x = told(0, 1, 10, 10, -1, 2, 20, 1, 12);
        Due.is("now", x.world(0), 2200);
        x.later(2);
        x.reading(30, -1, 4);
        Due.is("as known at 1", x.world(1), 2200);
        // As known at 2 it still fits exactly, so g and the world stay.
        Due.is("as known at 2", x.world(2), 2200);
        x.later(1);
        x.reading(0, 0, 0);
        // g 147 / 29, G 5068: 9900000 / 5068 = 1953.4.
        fit(x, 1, 1, 147, 29);
        Due.is("as known at 3", x.world(3), 1953);
        // PULL is that of the shed there is now.
        Due.shed(x, "wire 25;", 1);
        Due.is("half the wire", x.world(1), 1100);
    }

    private static void worldNone() {
        Due.by("Promise 15", "NONE if there is none.");
        LeadBalls x = new LeadBalls();
        Due.is("no readings", x.world(0), NONE);
        x.later(5);
        x.reading(0, 1, 10);
        x.reading(10, -1, 2);
        Due.is("two readings", x.world(5), NONE);
        x.reading(20, 1, 12);
        Due.is("three", x.world(5), 2200);
        Due.is("before", x.world(4), NONE);
        Due.is("far before", x.world(Integer.MIN_VALUE), NONE);
        Due.is("far later", x.world(Integer.MAX_VALUE), 2200);
        x.untell(0);
        Due.is("one untold", x.world(5), NONE);
    }

    private static void order() {
        Due.by("Promise 16", "ORDER");
        LeadBalls x = new LeadBalls();
        int[] due = {1, 9, 37, 105, 601, 1477};
        for (int again = 0; again < 2; again++) {
            for (int n = 2; n <= 12; n += 2) {
                Due.is("order(" + n + ")", x.order(n), due[n / 2 - 1]);
            }
        }
    }

    private static void orderNone() {
        Due.by("Promise 16", "NONE if n can't be.");
        LeadBalls x = new LeadBalls();
        for (int n : new int[] {-2, -1, 0, 1, 3, 5, 7, 9, 11, 13, 14, FAR_OUT[0], FAR_OUT[1]}) {
            Due.is("order(" + n + ")", x.order(n), NONE);
        }
    }
}
