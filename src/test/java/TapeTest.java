/** A new object, feed, end, about: promises 1 to 3 and 24, each of their sentences by itself. */
final class TapeTest {
    private static final int NONE = LeadBalls.NONE;
    private static final long GAP = LeadBalls.GAP;
    private static final String HOUSE = "house h says 1 span 2 wire w cellar c;";

    public static void main(String[] args) {
        calls();
        emptyShed();
        noHouses();
        noSum();
        comesBehind();
        highestFirst();
        howManyThereAre();
        noMoreThan800();
        firstBytes();
        notSoMany();
        belowNothing();
        aboutCauses();
        aboutTrials();
        aboutHouses();
        aboutLines();
        aboutReadings();
        aboutTime();
        aboutTape();
        aboutUnits();
        aboutAnother();
        Due.finish();
    }

    private static void calls() {
        Due.by("What it is", "An object is used for at most 512 calls after it has been made; what later calls answer is free.");
        LeadBalls x = new LeadBalls();
        // Two calls a turn: all 512 are answered, the last as the first.
        for (int n = 1; n <= 256; n++) {
            Due.is("feed", x.feed(0, 0, 0, 0, 0), 20);
            Due.is("end", x.end(0), 0);
        }
        LeadBalls y = new LeadBalls();
        for (int n = 1; n <= 512; n++) {
            Due.is("call " + n, y.later(100), 100 * n);
        }
        // What comes then is free, but it may not throw.
        for (int n = 513; n <= 2000; n++) {
            Due.is("call " + n + " answers", y.later(100) >= NONE, true);
        }
    }

    private static void emptyShed() {
        Due.by("Promise 1", "An empty SHED");
        LeadBalls x = new LeadBalls();
        Due.is("rest(1, 0, 0)", x.rest(1, 0, 0), 99);
        Due.is("rest(0, 999, 0)", x.rest(0, 999, 0), 0);
        Due.is("causes", x.about(0), 0);
        Due.is("trials", x.about(1), 0);
        Due.is("maybe()", x.maybe(), 0);
        Due.is("next()", x.next(), NONE);
        Due.is("fewest()", x.fewest(), 0);
        Due.is("result(0, true)", x.result(0, true), false);
        Due.is("bytes on the tape", x.about(6), 0);
    }

    private static void noHouses() {
        Due.by("Promise 1", "no HOUSES");
        LeadBalls x = new LeadBalls();
        Due.is("about(2)", x.about(2), 0);
        for (int what = 0; what <= 3; what++) {
            Due.is("agree(" + what + ")", x.agree(what), NONE);
        }
    }

    private static void noSum() {
        Due.by("Promise 1", "no SUM.");
        LeadBalls x = new LeadBalls();
        Due.is("about(3)", x.about(3), 0);
        Due.is("about(7)", x.about(7), 0);
        Due.is("right()", x.right(), GAP);
        Due.is("line(0, 0)", x.line(0, 0), GAP);
    }

    /** Twenty blanks, the sign $ at this place of them. */
    private static int feedWithDollarAt(LeadBalls x, int place) {
        int[] five = new int[5];
        for (int i = 0; i < 20; i++) {
            five[i / 4] = five[i / 4] << 8 | (i == place ? '$' : ' ');
        }
        return x.feed(five[0], five[1], five[2], five[3], five[4]);
    }

    private static void comesBehind() {
        Due.by("Promise 2", "Twenty bytes come behind those on the TAPE");
        LeadBalls x = new LeadBalls();
        // Thirty-nine rows of blanks are behind one another; the last byte of the last row is the one that can't be.
        for (int n = 0; n < 39; n++) {
            feedWithDollarAt(x, 20);
        }
        feedWithDollarAt(x, 19);
        Due.is("shed()", x.shed(), NONE);
        Due.is("fault(1)", x.fault(1), 799);
        // Behind a cut they come where it was made.
        feedWithDollarAt(x, 20);
        x.end(7);
        feedWithDollarAt(x, 0);
        Due.is("about(6)", x.about(6), 27);
        Due.is("shed()", x.shed(), NONE);
        Due.is("fault(1)", x.fault(1), 7);
    }

    private static void highestFirst() {
        Due.by("Promise 2", "of each number the highest first");
        for (int place = 0; place < 20; place++) {
            LeadBalls x = new LeadBalls();
            feedWithDollarAt(x, place);
            Due.is("shed()", x.shed(), NONE);
            Due.is("place of the $", x.fault(1), place);
        }
        LeadBalls x = new LeadBalls();
        // "rod " "7 ;\n" and blanks, then a byte above 127.
        Due.is("feed", x.feed(0x726F6420, 0x37203B0A, 0x20202020, 0x20202020, 0x20202080), 20);
        Due.is("shed", x.shed(), NONE);
        Due.is("fault(0)", x.fault(0), 1);
        Due.is("fault(1)", x.fault(1), 19);
        Due.is("feed", x.feed(0x726F6420, 0x37203B0A, 0x20202020, 0x20202020, 0x20202020), 20);
        Due.is("shed", x.shed(), 1);
        Due.is("rest(1, 0, 0)", x.rest(1, 0, 0), 99693);
    }

    private static void howManyThereAre() {
        Due.by("Promise 2", "how many there are");
        LeadBalls x = new LeadBalls();
        for (int n = 1; n <= 40; n++) {
            Due.is("feed " + n, x.feed(-1, Integer.MIN_VALUE, 0, 1, Integer.MAX_VALUE), 20 * n);
            Due.is("about(6)", x.about(6), 20 * n);
        }
    }

    private static void noMoreThan800() {
        Due.by("Promise 2", "NONE, and nothing comes, if there would be more than 800.");
        LeadBalls x = new LeadBalls();
        for (int n = 0; n < 40; n++) {
            feedWithDollarAt(x, 20);
        }
        Due.is("feed on 800", feedWithDollarAt(x, 0), NONE);
        Due.is("about(6)", x.about(6), 800);
        Due.is("end(781)", x.end(781), 781);
        Due.is("feed on 781", feedWithDollarAt(x, 0), NONE);
        Due.is("about(6)", x.about(6), 781);
        Due.is("nothing came", x.shed(), 0);
        for (int n = 0; n < 40; n++) {
            feedWithDollarAt(x, 20);
        }
        Due.is("end(780)", x.end(780), 780);
        Due.is("feed on 780", feedWithDollarAt(x, 20), 800);
    }

    private static void firstBytes() {
        Due.by("Promise 3", "The TAPE has its first n bytes: n");
        LeadBalls x = new LeadBalls();
        Due.is("end(0) of none", x.end(0), 0);
        feedWithDollarAt(x, 19);
        Due.is("end(20)", x.end(20), 20);
        Due.is("about(6)", x.about(6), 20);
        Due.is("end(19)", x.end(19), 19);
        Due.is("about(6)", x.about(6), 19);
        Due.is("the first, not the last", x.shed(), 0);
        feedWithDollarAt(x, 0);
        Due.is("end(1)", x.end(1), 1);
        Due.is("the first, not the last", x.shed(), NONE);
        feedWithDollarAt(x, 0);
        Due.is("end(0)", x.end(0), 0);
        Due.is("about(6)", x.about(6), 0);
        Due.is("none is left", x.shed(), 0);
        for (int n = 0; n < 40; n++) {
            feedWithDollarAt(x, 20);
        }
        Due.is("end(800)", x.end(800), 800);
    }

    private static void notSoMany() {
        Due.by("Promise 3", "NONE, doing nothing, if it has not so many");
        LeadBalls x = new LeadBalls();
        Due.is("end(1) of none", x.end(1), NONE);
        feedWithDollarAt(x, 20);
        Due.is("end(21)", x.end(21), NONE);
        Due.is("end(MAX)", x.end(Integer.MAX_VALUE), NONE);
        Due.is("about(6)", x.about(6), 20);
        x.end(7);
        Due.is("end(8), cut to 7", x.end(8), NONE);
        Due.is("about(6)", x.about(6), 7);
        x.end(0);
        for (int n = 0; n < 40; n++) {
            feedWithDollarAt(x, 20);
        }
        Due.is("end(801)", x.end(801), NONE);
        Due.is("about(6)", x.about(6), 800);
    }

    private static void belowNothing() {
        Due.by("Promise 3", "or n is below 0.");
        LeadBalls x = new LeadBalls();
        Due.is("end(-1) of none", x.end(-1), NONE);
        feedWithDollarAt(x, 20);
        Due.is("end(-1)", x.end(-1), NONE);
        Due.is("end(MIN)", x.end(Integer.MIN_VALUE), NONE);
        Due.is("about(6)", x.about(6), 20);
    }

    private static void aboutCauses() {
        Due.by("Promise 24", "What 0: CAUSES");
        Due.is("none", Due.shed("rod 5;", 1).about(0), 0);
        Due.is("three", Due.shed("cause a;cause b;cause c;trial t shows a;", 4).about(0), 3);
        Due.is("eight", Due.shed("cause a;cause b;cause c;cause d;cause e;cause f;cause g;cause h;", 8).about(0), 8);
    }

    private static void aboutTrials() {
        Due.by("Promise 24", "1: TRIALS");
        Due.is("none", Due.shed("cause a;", 1).about(1), 0);
        Due.is("two", Due.shed("cause a;trial t shows a;trial u shows a;", 3).about(1), 2);
    }

    private static void aboutHouses() {
        Due.by("Promise 24", "2: HOUSES");
        LeadBalls x = Due.houses(HOUSE, 1);
        Due.is("one", x.about(2), 1);
        Due.houses(x, "", 0);
        Due.is("none", x.about(2), 0);
    }

    private static void aboutLines() {
        Due.by("Promise 24", "3: lines of the SUM");
        LeadBalls x = Due.sum("a is 1 prints 1;b is a prints 1;", 2);
        Due.is("two", x.about(3), 2);
        Due.sum(x, "", 0);
        Due.is("none", x.about(3), 0);
    }

    private static void aboutReadings() {
        Due.by("Promise 24", "4: READINGS");
        LeadBalls x = new LeadBalls();
        Due.is("none", x.about(4), 0);
        x.reading(1, 1, 1);
        x.reading(2, -1, 1);
        Due.is("two", x.about(4), 2);
        x.untell(0);
        Due.is("one that is untold is still one", x.about(4), 2);
    }

    private static void aboutTime() {
        Due.by("Promise 24", "5: the TIME");
        LeadBalls x = new LeadBalls();
        Due.is("at first", x.about(5), 0);
        x.later(7);
        x.later(0);
        x.later(1000);
        Due.is("later", x.about(5), 1007);
    }

    private static void aboutTape() {
        Due.by("Promise 24", "6: bytes on the TAPE");
        LeadBalls x = new LeadBalls();
        Due.is("at first", x.about(6), 0);
        x.feed(0, 0, 0, 0, 0);
        Due.is("fed", x.about(6), 20);
        x.end(3);
        Due.is("cut", x.about(6), 3);
        x.houses();
        Due.is("read", x.about(6), 0);
    }

    private static void aboutUnits() {
        Due.by("Promise 24", "7: units.");
        LeadBalls x = Due.sum("a is 1+(2*3) prints 7;b is a prints 7;", 2);
        Due.is("numbers, names and ( e )", x.about(7), 5);
        Due.sum(x, "", 0);
        Due.is("none", x.about(7), 0);
        Due.is("sixty", Due.sum("a is 1" + "+1".repeat(59) + " prints 60;", 1).about(7), 60);
    }

    private static void aboutAnother() {
        Due.by("Promise 24", "NONE for another what.");
        LeadBalls x = new LeadBalls();
        for (int what : new int[] {-1, 8, 9, Integer.MIN_VALUE, Integer.MAX_VALUE}) {
            Due.is("about(" + what + ")", x.about(what), NONE);
        }
    }
}
