/** Promises 1 to 3 and 24: a new object, feed, end, about. */
final class TapeTest {
    public static void main(String[] args) {
        newObject();
        feedingAndCutting();
        bytesHighestFirst();
        aboutAll();
        Due.finish();
    }

    private static void newObject() {
        LeadBalls x = new LeadBalls();
        for (int what = 0; what <= 7; what++) {
            Due.is("new about(" + what + ")", x.about(what), 0);
        }
        Due.is("about(8)", x.about(8), LeadBalls.NONE);
        Due.is("about(-1)", x.about(-1), LeadBalls.NONE);
        Due.is("new agree(0)", x.agree(0), LeadBalls.NONE);
        Due.is("new right()", x.right(), LeadBalls.GAP);
        Due.is("new line(0, 0)", x.line(0, 0), LeadBalls.GAP);
        Due.is("new maybe()", x.maybe(), 0);
        Due.is("new next()", x.next(), LeadBalls.NONE);
        Due.is("new fewest()", x.fewest(), 0);
        Due.is("new rest(1, 0, 0)", x.rest(1, 0, 0), 99);
        Due.is("new fault(0)", x.fault(0), 0);
        Due.is("new fault(1)", x.fault(1), LeadBalls.NONE);
        Due.is("new result(0, true)", x.result(0, true), false);
    }

    private static void feedingAndCutting() {
        LeadBalls x = new LeadBalls();
        for (int n = 1; n <= 40; n++) {
            Due.is("feed " + n, x.feed(0, 0, 0, 0, 0), 20 * n);
        }
        Due.is("feed beyond 800", x.feed(0, 0, 0, 0, 0), LeadBalls.NONE);
        Due.is("still 800", x.about(6), 800);
        Due.is("end(801)", x.end(801), LeadBalls.NONE);
        Due.is("end(-1)", x.end(-1), LeadBalls.NONE);
        Due.is("end(800)", x.end(800), 800);
        Due.is("end(781)", x.end(781), 781);
        Due.is("feed on 781", x.feed(0, 0, 0, 0, 0), LeadBalls.NONE);
        Due.is("end(782)", x.end(782), LeadBalls.NONE);
        Due.is("end(780)", x.end(780), 780);
        Due.is("feed on 780", x.feed(0, 0, 0, 0, 0), 800);
        Due.is("end(0)", x.end(0), 0);
        Due.is("end(1) of none", x.end(1), LeadBalls.NONE);
        Due.is("end(MIN)", x.end(Integer.MIN_VALUE), LeadBalls.NONE);
        Due.is("end(MAX)", x.end(Integer.MAX_VALUE), LeadBalls.NONE);
    }

    private static void bytesHighestFirst() {
        LeadBalls x = new LeadBalls();
        // "rod " "7 ;\n" and blanks, then a byte above 127, whose place tells the order.
        Due.is("feed", x.feed(0x726F6420, 0x37203B0A, 0x20202020, 0x20202020, 0x20202080), 20);
        Due.is("shed", x.shed(), LeadBalls.NONE);
        Due.is("fault(0)", x.fault(0), 1);
        Due.is("fault(1)", x.fault(1), 19);
        Due.is("feed", x.feed(0x726F6420, 0x37203B0A, 0x20202020, 0x20202020, 0x20202020), 20);
        Due.is("shed", x.shed(), 1);
        Due.is("fault(2)", x.fault(2), LeadBalls.NONE);
        Due.is("fault(-1)", x.fault(-1), LeadBalls.NONE);
    }

    private static void aboutAll() {
        LeadBalls x = new LeadBalls();
        Due.shed(x, "cause a;cause b;cause c;trial t shows a;trial u shows b c;", 5);
        Due.houses(x, "house h says 1 span 2 wire w cellar c;", 1);
        Due.sum(x, "a is 1+(2*3) prints 7;b is a prints 7;", 2);
        x.reading(1, 1, 1);
        x.reading(2, -1, 1);
        x.untell(0);
        x.later(7);
        x.feed(0, 0, 0, 0, 0);
        int[] want = {3, 2, 1, 2, 2, 7, 20, 5};
        for (int what = 0; what < want.length; what++) {
            Due.is("about(" + what + ")", x.about(what), want[what]);
        }
    }
}
