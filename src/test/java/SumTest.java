/** The SUM (Terms, part 5) and promises 6, 18 and 19: sum, line, right. */
final class SumTest {
    private static final int NONE = LeadBalls.NONE;
    private static final long GAP = LeadBalls.GAP;
    private static final int WORKED = 0;
    private static final int SLIP = 1;
    private static final int MOVED = 2;
    /** 8192 * 4 * 8192 * 8 is 2 to the 31st: the least int. */
    private static final String LEAST_INT = "8192*4*8192*8";

    public static void main(String[] args) {
        longestText();
        noneAtFirst();
        eachPiece();
        twelveLines();
        expressions();
        terms();
        units();
        signs();
        nameAhead();
        sixtyUnits();
        withinSixOthers();
        slipsWrap();
        faultTooMuch();
        otherFaults();
        wrapping();
        cutAndByNothing();
        worked();
        slip();
        right();
        moved();
        becomesTheSum();
        howManyLines();
        thatThereIsStays();
        lineWhat();
        lineGap();
        rightOfLines();
        rightWithoutLines();
        Due.finish();
    }

    private static void comesTo(String e, int want) {
        LeadBalls x = Due.sum("a is " + e + " prints 0;", 1);
        Due.is("worked of " + e, x.line(0, WORKED), want);
        Due.is("right of " + e, x.right(), want);
    }

    private static void line(LeadBalls x, int line, long worked, long slip, long moved) {
        Due.is("worked of line " + line, x.line(line, WORKED), worked);
        Due.is("slip of line " + line, x.line(line, SLIP), slip);
        Due.is("moved by line " + line, x.line(line, MOVED), moved);
    }

    private static String lines(int count) {
        StringBuilder text = new StringBuilder();
        for (int i = 0; i < count; i++) {
            text.append((char) ('a' + i)).append(" is 1 prints 1;");
        }
        return text.toString();
    }

    private static void longestText() {
        Due.by("Terms 5", "A SUM is a text of at most 800 bytes");
        LeadBalls x = Due.sum(" ".repeat(784) + "a is 2 prints 1;", 1);
        Due.is("the last byte counts", x.right(), 2);
        Due.badSum(" ".repeat(785) + "a is 2 prints 1^", 2);
        Due.badSum("a is 2 prints 1;" + " ".repeat(783) + "^$", 1);
        Due.badSum("a is (((((((^" + "(".repeat(788), 2);
    }

    private static void noneAtFirst() {
        Due.by("Terms 5", "(none at first)");
        LeadBalls x = new LeadBalls();
        Due.is("about(3)", x.about(3), 0);
        Due.is("about(7)", x.about(7), 0);
        Due.is("right()", x.right(), GAP);
    }

    private static void eachPiece() {
        Due.by("Terms 5", "sum = {NAME is e prints V ;}");
        Due.sum("", 0);
        Due.sum("\n ", 0);
        Due.sum("a is 1 prints 1;", 1);
        Due.sum("a is 1 prints -1;b is 2 prints - 2 ;", 2);
        Due.badSum("^is 1 prints 1;", 2);
        Due.badSum("^1 is 1 prints 1;", 2);
        Due.badSum("^;", 2);
        Due.badSum("a ^1 prints 1;", 2);
        Due.badSum("a ^prints 1;", 2);
        Due.badSum("a is ^prints 1;", 2);
        Due.badSum("a is 1 ^;", 2);
        Due.badSum("a is 1 prints ^;", 2);
        Due.badSum("a is 1 prints ^a;", 2);
        Due.badSum("a is 1 prints ^(1);", 2);
        Due.badSum("a is 1 prints ^+1;", 2);
        Due.badSum("a is 1 prints 1 ^+ 1;", 2);
        Due.badSum("a is 1 prints 1 ^b is 1 prints 1;", 2);
        Due.badSum("a is 1 prints 1^", 2);
        Due.badSum("a is 1 prints 1;^;", 2);
        Due.badSum("a ^b is 1 prints 1;", 2);
        Due.cutShort("a is ( 1 + 2 * 3 ) / 4 prints - 5 ;", text -> Due.badSum(text, 2));
    }

    private static void twelveLines() {
        Due.by("Terms 5", "12 lines at most.");
        Due.is("eleven", Due.sum(lines(11), 11).about(3), 11);
        LeadBalls x = Due.sum(lines(11) + "l is 5 prints 7;", 12);
        Due.is("twelve", x.about(3), 12);
        line(x, 11, 5, 2, 2);
        Due.is("right()", x.right(), 5);
        Due.badSum(lines(12) + "^m is 1 prints 1;", 2);
    }

    private static void expressions() {
        Due.by("Terms 5", "e = term {(+ | -) term}.");
        comesTo("7", 7);
        comesTo("7+5", 12);
        comesTo("7-5", 2);
        comesTo("10-2-3", 5);
        comesTo("10-2+3", 11);
        comesTo("1+2*3", 7);
        comesTo("1*2+3", 5);
        comesTo("2-3*4-5*6/7", -14);
        Due.badSum("a is ^-1 prints 1;", 2);
        Due.badSum("a is ^+1 prints 1;", 2);
        Due.badSum("a is 1 + ^+ 2 prints 1;", 2);
        Due.badSum("a is 1 - ^- 2 prints 1;", 2);
        Due.badSum("a is 1 - ^prints 1;", 2);
        Due.badSum("a is 1 ^2 prints 1;", 2);
    }

    private static void terms() {
        Due.by("Terms 5", "term = unit {(* | /) unit}.");
        comesTo("3*4", 12);
        comesTo("100/7/2", 7);
        comesTo("7/2*2", 6);
        comesTo("2*7/2", 7);
        Due.badSum("a is ^*1 prints 1;", 2);
        Due.badSum("a is 1 + ^* 2 prints 1;", 2);
        Due.badSum("a is 1 * ^- 2 prints 1;", 2);
        Due.badSum("a is 1 / ^prints 1;", 2);
    }

    private static void units() {
        Due.by("Terms 5", "unit = N | NAME | ( e ).");
        comesTo("0", 0);
        comesTo("9999", 9999);
        comesTo("(5)", 5);
        comesTo("10-(2-3)", 11);
        comesTo("100/(7/2)", 33);
        comesTo("(1+2)*(3+4)", 21);
        comesTo("1-2*(3-4*(5-6*(7-8*(9-10*(11-12)))))", 1 - 2 * (3 - 4 * (5 - 6 * (7 - 8 * (9 - 10 * (11 - 12))))));
        Due.is("a name", Due.sum("a is 7 prints 8;b is a prints 0;", 2).line(1, WORKED), 8);
        Due.badSum("a is ^) prints 1;", 2);
        Due.badSum("a is (^) prints 1;", 2);
        Due.badSum("a is 1^) prints 1;", 2);
        Due.badSum("a is (1 ^prints 1;", 2);
        Due.badSum("a is ((1) ^prints 1;", 2);
        Due.badSum("a is (1 ^2) prints 1;", 2);
        Due.badSum("a is (1^;", 2);
        Due.badSum("a is (1) ^(2) prints 1;", 2);
    }

    private static void signs() {
        Due.by("Terms 5", "TOKENS with the signs ( ) + * /, too.");
        Due.sum("a is (1+2)*3/4-5 prints -3;", 1);
        for (char c = '!'; c < 127; c++) {
            boolean letter = c >= 'a' && c <= 'z';
            boolean token = c >= '0' && c <= '9' || ";-()+*/".indexOf(c) >= 0;
            if (!letter && c != '^') {
                Due.badSum("^" + c, token ? 2 : 1);
            }
            // In the other texts they are none.
            if ("()+*/".indexOf(c) >= 0) {
                Due.badShed("^" + c, 1);
                Due.badHouses("^" + c, 1);
            }
        }
    }

    private static void nameAhead() {
        Due.by("Terms 5", "A NAME: of a line ahead.");
        LeadBalls x = Due.sum("a is 1 prints 5;b is 2 prints 6;c is a*10+b prints 0;", 3);
        Due.is("the lines ahead", x.line(2, WORKED), 56);
        Due.is("the first of many", Due.sum(lines(11) + "l is a+k prints 2;", 12).line(11, WORKED), 2);
        Due.badSum("a is ^a prints 1;", 5);
        Due.badSum("a is ^b prints 1;b is 1 prints 1;", 5);
        Due.badSum("a is 1 prints 1;b is a+^b prints 1;", 5);
        // A line of the sum ahead, or of a faulty text, is none of this one.
        LeadBalls y = Due.sum("a is 1 prints 1;", 1);
        Due.badSum(y, "b is ^a prints 1;", 5);
        Due.badSum(y, "c is 1 prints 1;^$", 1);
        Due.badSum(y, "b is ^c prints 1;", 5);
    }

    private static void sixtyUnits() {
        Due.by("Terms 5", "60 units in all");
        LeadBalls x = Due.sum("a is 1" + "+1".repeat(59) + " prints 60;", 1);
        Due.is("sixty", x.about(7), 60);
        Due.is("all count", x.line(0, WORKED), 60);
        Due.badSum("a is 1" + "+1".repeat(59) + "+^1 prints 61;", 2);
        // In all lines together.
        LeadBalls y = Due.sum("a is 1" + "+1".repeat(57) + " prints 58;b is a*a prints 0;", 2);
        Due.is("58 and 2", y.about(7), 60);
        Due.is("all count", y.line(1, WORKED), 58 * 58);
        Due.badSum("a is 1" + "+1".repeat(57) + " prints 58;b is a*a*^a prints 0;", 2);
        Due.badSum("a is 1" + "+1".repeat(59) + " prints 60;b is ^a prints 0;", 2);
        // A ( e ) is one, too, at its own place, ahead of those in it.
        Due.is("(1) is two", Due.sum("a is (1) prints 1;", 1).about(7), 2);
        Due.is("60 with one ( e )", Due.sum("a is 1" + "+1".repeat(57) + "+(1) prints 59;", 1).about(7), 60);
        Due.badSum("a is 1" + "+1".repeat(58) + "+(^1) prints 60;", 2);
        Due.badSum("a is 1" + "+1".repeat(59) + "+^(1) prints 61;", 2);
        // The units of a faulty text, or of the sum ahead, do not count in this one.
        LeadBalls z = new LeadBalls();
        Due.badSum(z, "a is 1" + "+1".repeat(59) + " ^1", 2);
        for (int again = 0; again < 6; again++) {
            Due.sum(z, "a is 1" + "+1".repeat(59) + " prints 60;", 1);
            Due.is("sixty", z.about(7), 60);
            Due.is("right()", z.right(), 60);
        }
    }

    private static void withinSixOthers() {
        Due.by("Terms 5", "a unit ( e ) within 6 others at most.");
        comesTo("(((((((9)))))))-1", 8);
        comesTo("1+(1+(1+(1+(1+(1+(1+(1)))))))", 8);
        Due.badSum("a is (((((((^(1)))))))) prints 1;", 2);
        Due.badSum("a is 1*(2*(3*(4*(5*(6*(7*(8*^(9)))))))) prints 1;", 2);
        // Beside is not within.
        comesTo("(1)+(1)+(1)+(1)+(1)+(1)+(1)+(1)+(1)", 9);
        comesTo("(((((((1)))))))+(((((((2)))))))", 3);
        comesTo("((((((1+(2))))))+(3))", 6);
        Due.badSum("a is (((((((1+^(2)))))))) prints 1;", 2);
        // Nor does a line within go on into the next.
        Due.sum("a is (((((((1))))))) prints 1;b is (((((((a))))))) prints 1;", 2);
    }

    private static void slipsWrap() {
        Due.by("Terms 5", "(SLIPS, MOVED: ints, wrapping, too.)");
        // -1 less the least int is the greatest one; -9999 less it wraps to below that.
        line(Due.sum("a is " + LEAST_INT + " prints -1;", 1), 0, Integer.MIN_VALUE, Integer.MAX_VALUE, Integer.MAX_VALUE);
        line(Due.sum("a is " + LEAST_INT + " prints 0;", 1), 0, Integer.MIN_VALUE, Integer.MIN_VALUE, Integer.MIN_VALUE);
        line(Due.sum("a is " + LEAST_INT + " prints 1;", 1), 0, Integer.MIN_VALUE, Integer.MIN_VALUE + 1, Integer.MIN_VALUE + 1);
        line(Due.sum("a is " + LEAST_INT + "-1 prints -2;", 1), 0, Integer.MAX_VALUE, Integer.MAX_VALUE, Integer.MAX_VALUE);
        line(Due.sum("a is " + LEAST_INT + "-1 prints -3;", 1), 0, Integer.MAX_VALUE, Integer.MAX_VALUE - 1, Integer.MAX_VALUE - 1);
        // What the first line moved: with its slip the last is 0, without it 64 less 2 to the 32nd, wrapped to 0, and so 64.
        LeadBalls x = Due.sum("a is 1 prints 8192;b is a*a*64 prints 0;", 2);
        line(x, 0, 1, 8191, -64);
        line(x, 1, 0, 0, 0);
        // 0 less (the least int and 1) wraps.
        LeadBalls y = Due.sum("a is 0 prints 1;b is (1-a)*" + LEAST_INT + " prints 1;", 2);
        line(y, 0, 0, 1, Integer.MIN_VALUE);
        line(y, 1, 0, 1, 1);
    }

    private static void faultTooMuch() {
        Due.by("Terms 5", "FAULTS 1, 2 (a 13th line: at its first word; a 61st unit, a ( within 7 others: there)");
        Due.badSum(lines(12) + "  ^m", 2);
        Due.badSum(lines(12) + "\n^m is $", 2);
        Due.badSum(lines(12) + "^a is 1", 2);
        Due.badSum(lines(12) + "^is", 2);
        Due.badSum(lines(12) + "^5", 2);
        Due.badSum("a is 1" + "+1".repeat(59) + "+ ^1", 2);
        Due.badSum("a is 1" + "+1".repeat(59) + "+ ^zz", 2);
        Due.badSum("a is 1" + "+1".repeat(59) + "* ^(", 2);
        Due.badSum("a is 1" + "+1".repeat(59) + "*^", 2);
        Due.badSum("a is (((((((^(", 2);
        Due.badSum("a is ((((((( ^($", 2);
        Due.badSum("a is 1^;", 2);
        Due.badSum("a is 1 ^$", 1);
    }

    private static void otherFaults() {
        Due.by("Terms 5", "3, 4 (V: -9999 .. 9999), 5.");
        Due.badSum("a is 1 prints 1;^a is 1 prints 1;", 3);
        Due.badSum(lines(11) + "^k", 3);
        Due.badSum("a is 1 prints 1;b is 1 prints 1; ^a $", 3);
        LeadBalls x = Due.sum("a is 0 prints 9999;b is 0 prints -9999;c is 0 prints - 9999;d is 0 prints 0;e is 0 prints -0;", 5);
        int[] slips = {9999, -9999, -9999, 0, 0};
        for (int i = 0; i < slips.length; i++) {
            Due.is("slip of line " + i, x.line(i, SLIP), slips[i]);
        }
        // No V of four digits can't be; of five digits it is no TOKEN.
        Due.badSum("a is 0 prints ^10000;", 1);
        Due.badSum("a is 0 prints -^10000;", 1);
        Due.badSum("a is ^b", 5);
        Due.badSum("a is 1 prints 1;b is a+(^c", 5);
        Due.badSum("a is 1 prints 1;b is 1 prints 1;c is a*b-^d prints 1;d is 1 prints 1;", 5);
    }

    private static void wrapping() {
        Due.by("Terms 5", "Ints, wrapping");
        comesTo(LEAST_INT, Integer.MIN_VALUE);
        comesTo(LEAST_INT + "-1", Integer.MAX_VALUE);
        comesTo(LEAST_INT + "-1+1", Integer.MIN_VALUE);
        comesTo(LEAST_INT + "*2", 0);
        comesTo("9999*9999*9999", 9999 * 9999 * 9999);
        comesTo("0-" + LEAST_INT, Integer.MIN_VALUE);
        comesTo(LEAST_INT + "/(0-1)", Integer.MIN_VALUE);
        comesTo("(" + LEAST_INT + "-1)*(" + LEAST_INT + "-1)", 1);
    }

    private static void cutAndByNothing() {
        Due.by("Terms 5", "/ is cut, by 0 it is 0.");
        comesTo("7/2", 3);
        comesTo("(0-7)/2", -3);
        comesTo("7/(0-2)", -3);
        comesTo("(0-7)/(0-2)", 3);
        comesTo("1/2", 0);
        comesTo("(0-1)/2", 0);
        comesTo("7/7", 1);
        comesTo("7/0", 0);
        comesTo("0/0", 0);
        comesTo("(0-7)/0", 0);
        comesTo("7/0*5+1", 1);
        comesTo("7/(3-3)+1", 1);
        comesTo("7/0/0", 0);
        comesTo("1/(1/0)", 0);
        LeadBalls x = Due.sum("a is 5 prints 0;b is 7/a prints 3;", 2);
        line(x, 1, 0, 3, 3);
        // Without its slip a is 5, and b is 1 and 3 more.
        line(x, 0, 5, -5, -1);
        Due.is("right()", x.right(), 1);
    }

    private static void worked() {
        Due.by("Terms 5", "WORKED: e of a line by what the lines ahead print.");
        LeadBalls x = Due.sum("a is 2 prints 3;b is a*a prints 10;c is b*a prints -1;", 3);
        Due.is("line 0", x.line(0, WORKED), 2);
        Due.is("line 1", x.line(1, WORKED), 9);
        Due.is("line 2", x.line(2, WORKED), 30);
    }

    private static void slip() {
        Due.by("Terms 5", "SLIP: what it prints less WORKED.");
        LeadBalls x = Due.sum("a is 2 prints 3;b is a*a prints 9;c is b*a prints -1;", 3);
        Due.is("line 0", x.line(0, SLIP), 1);
        Due.is("line 1", x.line(1, SLIP), 0);
        Due.is("line 2", x.line(2, SLIP), -28);
    }

    private static void right() {
        Due.by("Terms 5", "TRUE: the last line's e, if all lines ahead come to their e by one another, without any SLIP.");
        Due.is("one line", Due.sum("a is 2 prints 3;", 1).right(), 2);
        Due.is("through all", Due.sum("a is 2 prints 3;b is a*a prints 10;c is b*a prints 30;", 3).right(), 8);
        Due.is("the last line's own slip is none of it", Due.sum("a is 5 prints 7;b is a+1 prints 6;", 2).right(), 6);
        Due.is("a line that is not used", Due.sum("a is 5 prints 7;b is 1 prints 1;", 2).right(), 1);
    }

    private static void moved() {
        Due.by("Terms 5", "MOVED by a line: what the last line comes to (e and its SLIP, by what those ahead come to so) with all SLIPS, "
            + "less what it comes to with that line's SLIP alone left out.");
        LeadBalls x = Due.sum("a is 3*4+5 prints 17;b is a*2 prints 35;c is b-a/4 prints 31;", 3);
        line(x, 0, 17, 0, 0);
        line(x, 1, 34, 1, 1);
        line(x, 2, 31, 0, 0);
        // Left out alone: the other slips stay. a 2, b 4 and 1 more, c 10; with all of them 30.
        LeadBalls y = Due.sum("a is 2 prints 3;b is a*a prints 10;c is b*a prints 30;", 3);
        line(y, 0, 2, 1, 30 - 10);
        line(y, 1, 9, 1, 3);
        line(y, 2, 30, 0, 0);
        // One slip hides another: the last line's own slip moves what it is.
        LeadBalls z = Due.sum("a is 5 prints 7;b is a+1 prints 6;", 2);
        line(z, 0, 5, 2, 2);
        line(z, 1, 8, -2, -2);
        // A line that the last one does not use moves nothing.
        line(Due.sum("a is 5 prints 7;b is 1 prints 1;", 2), 0, 5, 2, 0);
        line(Due.sum("a is 7/(3-3) prints -2;b is a*a prints 5;", 2), 0, 0, -2, 4);
        line(Due.sum(lines(11) + "l is a+k prints 5;", 12), 11, 2, 3, 3);
    }

    private static void becomesTheSum() {
        Due.by("Promise 6", "The TAPE (empty then) is the SUM");
        LeadBalls x = Due.sum("a is 2 prints 3;b is a*a prints 10;", 2);
        Due.is("no bytes are left", x.about(6), 0);
        Due.sum(x, "z is 5 prints 5;", 1);
        Due.is("that ahead is gone", x.right(), 5);
        Due.is("that ahead is gone", x.line(1, WORKED), GAP);
        Due.is("nothing is on the tape then", x.sum(), 0);
        Due.is("so there is none", x.right(), GAP);
        Due.badSum(x, "a is 2 prints 3;^$", 1);
        Due.is("the tape is empty behind a fault, too", x.about(6), 0);
    }

    private static void howManyLines() {
        Due.by("Promise 6", "how many lines");
        Due.sum("", 0);
        Due.sum(lines(1), 1);
        Due.sum(lines(12), 12);
    }

    private static void thatThereIsStays() {
        Due.by("Promise 6", "NONE: a FAULT (that there is stays).");
        LeadBalls x = Due.sum("a is 2*3 prints 5;b is a+1 prints 7;", 2);
        Due.badSum(x, "b is 1+1+1+(4) prints 9;c is b prints 8;d is c*c prints 7^", 2);
        Due.is("lines", x.about(3), 2);
        Due.is("units", x.about(7), 4);
        line(x, 0, 6, -1, -1);
        line(x, 1, 6, 1, 1);
        Due.is("right()", x.right(), 7);
        Due.is("no third line", x.line(2, WORKED), GAP);
        LeadBalls y = new LeadBalls();
        Due.badSum(y, "a is 1 prints 1;^$", 1);
        Due.is("none stays none", y.right(), GAP);
        Due.is("units", y.about(7), 0);
        Due.is("lines", y.about(3), 0);
        Due.put(y, "a is");
        Due.is("answers NONE", y.sum(), NONE);
    }

    private static void lineWhat() {
        Due.by("Promise 18", "Of a line of the SUM what 0: WORKED, 1: SLIP, 2: MOVED");
        LeadBalls x = Due.sum("a is 10 prints 13;b is a*7 prints 90;", 2);
        line(x, 0, 10, 3, 21);
        line(x, 1, 91, -1, -1);
    }

    private static void lineGap() {
        Due.by("Promise 18", "GAP if there is none such, or for another what.");
        LeadBalls x = new LeadBalls();
        for (int what = -1; what <= 3; what++) {
            Due.is("no lines", x.line(0, what), GAP);
        }
        Due.sum(x, "a is 1 prints 1;b is 2 prints 2;", 2);
        for (int line : new int[] {-1, 2, 11, 12, Integer.MIN_VALUE, Integer.MAX_VALUE}) {
            for (int what = 0; what <= 2; what++) {
                Due.is("line " + line, x.line(line, what), GAP);
            }
        }
        for (int what : new int[] {-1, 3, Integer.MIN_VALUE, Integer.MAX_VALUE}) {
            Due.is("what " + what, x.line(0, what), GAP);
            Due.is("what " + what, x.line(1, what), GAP);
        }
        LeadBalls y = Due.sum(lines(12), 12);
        Due.is("line 11", y.line(11, WORKED), 1);
        Due.is("line 12", y.line(12, WORKED), GAP);
    }

    private static void rightOfLines() {
        Due.by("Promise 19", "TRUE");
        Due.is("two lines", Due.sum("a is 10 prints 13;b is a*7 prints 90;", 2).right(), 70);
    }

    private static void rightWithoutLines() {
        Due.by("Promise 19", "GAP without lines.");
        LeadBalls x = new LeadBalls();
        Due.is("at first", x.right(), GAP);
        Due.sum(x, "a is 1 prints 1;", 1);
        Due.sum(x, "", 0);
        Due.is("an empty sum", x.right(), GAP);
    }
}
