/** Promises 18 and 19: line, right. */
final class SumTest {
    private static final int WORKED = 0;
    private static final int SLIP = 1;
    private static final int MOVED = 2;

    public static void main(String[] args) {
        working();
        slipsAndWhatTheyMoved();
        wrapping();
        wrongOnes();
        Due.finish();
    }

    private static void comesTo(String e, int want) {
        LeadBalls x = new LeadBalls();
        Due.sum(x, "a is " + e + " prints 0;", 1);
        Due.is("worked of " + e, x.line(0, WORKED), want);
        Due.is("right of " + e, x.right(), want);
        Due.is("slip of " + e, x.line(0, SLIP), -want);
        Due.is("moved of " + e, x.line(0, MOVED), -want);
    }

    private static void working() {
        comesTo("7", 7);
        comesTo("1+2*3", 7);
        comesTo("1*2+3", 5);
        comesTo("10-2-3", 5);
        comesTo("10-(2-3)", 11);
        comesTo("100/7/2", 7);
        comesTo("100/(7/2)", 33);
        comesTo("7/2*2", 6);
        comesTo("2*7/2", 7);
        comesTo("(0-7)/2", -3);
        comesTo("7/(0-2)", -3);
        comesTo("7/0", 0);
        comesTo("7/(3-3)+1", 1);
        comesTo("0/0", 0);
        comesTo("2-3*4-5*6/7", -14);
        comesTo("(1+2)*(3+4)", 21);
        comesTo("(((((((9)))))))-1", 8);
        comesTo("1-2*(3-4*(5-6*(7-8*(9-10*(11-12)))))", 1 - 2 * (3 - 4 * (5 - 6 * (7 - 8 * (9 - 10 * (11 - 12))))));
    }

    private static void line(LeadBalls x, int line, long worked, long slip, long moved) {
        Due.is("worked of line " + line, x.line(line, WORKED), worked);
        Due.is("slip of line " + line, x.line(line, SLIP), slip);
        Due.is("moved by line " + line, x.line(line, MOVED), moved);
    }

    private static void slipsAndWhatTheyMoved() {
        LeadBalls x = new LeadBalls();
        Due.sum(x, "a is 3*4+5 prints 17;b is a*2 prints 35;c is b-a/4 prints 31;", 3);
        line(x, 0, 17, 0, 0);
        line(x, 1, 34, 1, 1);
        line(x, 2, 31, 0, 0);
        Due.is("right", x.right(), 30);
        // By what the lines ahead print, not by what they should.
        Due.sum(x, "a is 2 prints 3;b is a*a prints 10;c is b*a prints 30;", 3);
        line(x, 0, 2, 1, 30 - 10);
        line(x, 1, 9, 1, 3);
        line(x, 2, 30, 0, 0);
        Due.is("right", x.right(), 8);
        // One slip hides another: the last line's own slip moves what it is.
        Due.sum(x, "a is 5 prints 7;b is a+1 prints 6;", 2);
        line(x, 0, 5, 2, 2);
        line(x, 1, 8, -2, -2);
        Due.is("right", x.right(), 6);
        // A line that the last one does not use moves nothing.
        Due.sum(x, "a is 5 prints 7;b is 1 prints 1;", 2);
        line(x, 0, 5, 2, 0);
        Due.is("right", x.right(), 1);
        Due.sum(x, "a is 7/(3-3) prints -2;b is a*a prints 5;", 2);
        line(x, 0, 0, -2, 4);
        line(x, 1, 4, 1, 1);
        Due.is("right", x.right(), 0);
    }

    private static void wrapping() {
        comesTo("9999*9999*9999", 9999 * 9999 * 9999);
        LeadBalls x = new LeadBalls();
        // 32768 * 65536 is the least int, and less than nothing is taken from it.
        Due.sum(x, "a is 8192*4*8192*8 prints -1;", 1);
        line(x, 0, Integer.MIN_VALUE, Integer.MAX_VALUE, Integer.MAX_VALUE);
        Due.sum(x, "a is 8192*4*8192*8/(0-1) prints 0;", 1);
        line(x, 0, Integer.MIN_VALUE, Integer.MIN_VALUE, Integer.MIN_VALUE);
        Due.sum(x, "a is 1 prints 8192;b is a*a*64 prints 0;", 2);
        Due.is("moved", x.line(0, MOVED), 0 - (64 + (0 - 8192 * 8192 * 64)));
    }

    private static void wrongOnes() {
        LeadBalls x = new LeadBalls();
        Due.is("no lines", x.line(0, 0), LeadBalls.GAP);
        Due.is("no lines", x.right(), LeadBalls.GAP);
        Due.sum(x, "a is 1 prints 1;", 1);
        Due.is("line 1", x.line(1, 0), LeadBalls.GAP);
        Due.is("line -1", x.line(-1, 0), LeadBalls.GAP);
        Due.is("line 12", x.line(12, 0), LeadBalls.GAP);
        Due.is("what 3", x.line(0, 3), LeadBalls.GAP);
        Due.is("what -1", x.line(0, -1), LeadBalls.GAP);
    }
}
