/** THE SHED (Terms, part 1) and promise 4: its lines, their bounds and their FAULTS. */
final class ShedTest {
    private static final int NONE = LeadBalls.NONE;
    private static final String EIGHT_CAUSES = "cause a;cause b;cause c;cause d;cause e;cause f;cause g;cause h;";
    private static final String ALL_ONCE = "ball 9 near 5 far 9;rod 1;wire 1;damp 1;reads 1;zero 1;creep 1;warm 1;iron 1;";

    public static void main(String[] args) {
        longestText();
        emptyAtFirst();
        anyNumberOfLines();
        eachKindOfLine();
        atMostOnce();
        notTold();
        ball();
        near();
        far();
        rod();
        wire();
        damp();
        reads();
        signedOnes();
        eightCausesAndTrials();
        causesToldAhead();
        cantStandThere();
        toldAlready();
        cantBe();
        noCauseHasIt();
        becomesTheShed();
        resultsAreNoneThen();
        howManyLines();
        allStays();
        Due.finish();
    }

    private static void longestText() {
        Due.by("Terms 1", "THE SHED is a text of at most 800 bytes");
        LeadBalls x = Due.shed(" ".repeat(794) + "zero7;", 1);
        Due.is("the last byte counts", x.rest(0, 0, 0), 7);
        Due.badShed(" ".repeat(794) + "zero77^", 2);
        Due.shed("zero 7;" + " ".repeat(793), 1);
    }

    private static void emptyAtFirst() {
        Due.by("Terms 1", "(empty at first)");
        LeadBalls first = new LeadBalls();
        LeadBalls empty = Due.shed("", 0);
        for (int side = -1; side <= 1; side++) {
            for (int minute = 0; minute <= 999; minute += 333) {
                Due.is("rest", first.rest(side, minute, 0), empty.rest(side, minute, 0));
                Due.is("turning", first.turning(side, minute, 77, 3), empty.turning(side, minute, 77, 3));
            }
        }
        Due.is("causes", first.about(0), 0);
        Due.is("trials", first.about(1), 0);
    }

    private static void anyNumberOfLines() {
        Due.by("Terms 1", "shed = {line}.");
        Due.shed("", 0);
        Due.shed(" \n", 0);
        Due.shed("rod 5;", 1);
        StringBuilder most = new StringBuilder(ALL_ONCE).append(EIGHT_CAUSES);
        for (char c = 'a'; c <= 'h'; c++) {
            most.append("trial ").append(c).append(" shows ").append(c).append(';');
        }
        Due.shed(most.toString(), 9 + 8 + 8);
        Due.badShed("^;", 2);
        Due.badShed("rod 5;^;", 2);
        Due.badShed("rod 5;^5", 2);
    }

    private static void eachKindOfLine() {
        Due.by("Terms 1", "line = ball N near N far N ; | rod N ; | wire N ; | damp N ; | reads N ; | zero V ; | creep V ; | warm V ; "
            + "| iron V ; | cause NAME ; | trial NAME shows NAME {NAME} ;. V = [-] N.");
        Due.shed("ball 9 near 5 far 9;", 1);
        Due.badShed("ball ^near 5 far 9;", 2);
        Due.badShed("ball 9 ^5 far 9;", 2);
        Due.badShed("ball 9 ^far 9 near 5;", 2);
        Due.badShed("ball 9 near ^far 9;", 2);
        Due.badShed("ball 9 near 5 ^9;", 2);
        Due.badShed("ball 9 near 5 ^;", 2);
        Due.badShed("ball 9 near 5 far ^;", 2);
        Due.badShed("ball 9^;", 2);
        Due.badShed("ball ^-9 near 5 far 9;", 2);
        Due.badShed("ball 9 near ^-5 far 9;", 2);
        Due.badShed("ball 9 near 5 far ^-9;", 2);
        Due.badShed("^near 5;", 2);
        Due.badShed("^far 5;", 2);
        for (String word : new String[] {"ball 9 near 5 far", "rod", "wire", "damp", "reads"}) {
            Due.shed(word + " 9;", 1);
            Due.badShed(word + "^;", 2);
            Due.badShed(word + " ^-9;", 2);
            Due.badShed(word + " ^a;", 2);
            Due.badShed(word + " 9 ^9;", 2);
            Due.badShed(word + " 9^", 2);
        }
        for (String word : new String[] {"zero", "creep", "warm", "iron"}) {
            Due.shed(word + " 9;", 1);
            Due.shed(word + " -9;", 1);
            Due.shed(word + "-0;", 1);
            Due.badShed(word + "^;", 2);
            Due.badShed(word + " -^;", 2);
            Due.badShed(word + " -^-9;", 2);
            Due.badShed(word + " ^a;", 2);
            Due.badShed(word + " 9 ^-;", 2);
            Due.badShed(word + " 9^", 2);
        }
        Due.badShed("cause^;", 2);
        Due.badShed("cause ^5;", 2);
        Due.badShed("cause a ^b;", 2);
        Due.badShed("cause a^", 2);
        Due.shed("cause a;trial t shows a;", 2);
        Due.badShed("cause a;trial ^shows a;", 2);
        Due.badShed("cause a;trial t ^a;", 2);
        Due.badShed("cause a;trial t shows^;", 2);
        Due.badShed("cause a;trial t shows ^5;", 2);
        Due.badShed("cause a;trial t shows a ^5;", 2);
        Due.badShed("cause a;trial t shows a^", 2);
        Due.badShed("^shows a;", 2);
        Due.badShed("^hello 5;", 2);
        for (String line : new String[] {"ball 9 near 5 far 9 ;", "rod 9 ;", "zero - 9 ;", "cause a ;"}) {
            Due.cutShort(line, text -> Due.badShed(text, 2));
        }
        Due.cutShort("trial t shows a b ;", text -> Due.badShed("cause a;cause b;" + text, 2));
        Due.badShed("^house a says 1 span 1 wire w cellar c;", 2);
    }

    private static void atMostOnce() {
        Due.by("Terms 1", "Each line but cause, trial at most once");
        for (String line : ALL_ONCE.split(";")) {
            Due.shed(line + ";", 1);
            Due.badShed(line + ";^" + line + ";", 2);
            Due.badShed(ALL_ONCE + " ^" + line + ";", 2);
        }
        Due.shed(ALL_ONCE, 9);
        Due.shed("cause a;cause b;trial a shows a;trial b shows a;", 4);
        // What a faulty text told is not told in the next.
        LeadBalls x = new LeadBalls();
        Due.badShed(x, ALL_ONCE + "^$", 1);
        Due.shed(x, ALL_ONCE, 9);
        Due.shed(x, ALL_ONCE, 9);
    }

    private static void rest(LeadBalls x, int side, int minute, long upper, long lower) {
        Due.fraction("rest(" + side + ", " + minute + ")", x.rest(side, minute, 0), x.rest(side, minute, 1), upper, lower);
    }

    private static void notTold() {
        Due.by("Terms 1", "if it is not told: ball 50 near 5 far 50, rod 0, wire 50, damp 90, reads 1, zero 0, creep 0, warm 0, iron 0.");
        LeadBalls told = Due.shed("ball 50 near 5 far 50;rod 0;wire 50;damp 90;reads 1;zero 0;creep 0;warm 0;iron 0;", 9);
        for (LeadBalls x : new LeadBalls[] {new LeadBalls(), Due.shed("", 0), told}) {
            rest(x, 1, 0, 99, 1);
            rest(x, -1, 999, -99, 1);
            rest(x, 0, 999, 0, 1);
            Due.is("damp 90", x.turning(0, 0, 1000, 1), -900);
            Due.is("reads 1", x.turning(0, 0, 7, 0), 7);
        }
        // Each by itself, the others told: PULL of ball 1 near 1 far 2 wire 1 is 3 / 4.
        rest(Due.shed("ball 1 near 1 far 2;rod 1;", 2), 1, 0, 3003, 80);
        rest(Due.shed("ball 1 near 1 far 2;wire 1;", 2), 1, 0, 3, 4);
        rest(Due.shed("wire 1;", 1), 1, 0, 99, 50);
        rest(Due.shed("wire 1;zero 1;", 2), 0, 999, 1, 1);
        rest(Due.shed("wire 1;creep 10;", 2), 0, 7, 7, 1);
        rest(Due.shed("wire 1;warm 1;", 2), 1, 999, 149, 50);
        rest(Due.shed("wire 1;iron 1;", 2), -1, 999, -49, 50);
        // What the shed ahead told is not told any more.
        LeadBalls x = Due.shed("ball 1 near 1 far 2;rod 9;wire 2;damp 3;reads 4;zero 5;creep 6;warm 7;iron 8;", 9);
        Due.badShed(x, "ball 1 near 1 far 2;rod 9;wire 2;damp 3;reads 4;zero 5;creep 6;warm 7;iron 8^", 2);
        for (int again = 0; again < 3; again++) {
            Due.shed(x, "", 0);
            rest(x, 1, 0, 99, 1);
            rest(x, -1, 999, -99, 1);
            Due.is("damp 90", x.turning(0, 0, 1000, 1), -900);
            Due.is("reads 1", x.turning(0, 0, 7, 0), 7);
        }
    }

    private static void ball() {
        Due.by("Terms 1", "ball 1 .. 99");
        rest(Due.shed("ball 1 near 5 far 50;", 1), 1, 0, 99, 50);
        rest(Due.shed("ball 99 near 5 far 50;", 1), 1, 0, 9801, 50);
        Due.badShed("ball ^0 near 5 far 50;", 4);
        Due.badShed("ball ^100 near 5 far 50;", 4);
        Due.badShed("ball ^9999 near 5 far 50;", 4);
    }

    private static void near() {
        Due.by("Terms 1", "near 1 .. 20");
        rest(Due.shed("ball 50 near 1 far 50;", 1), 1, 0, 2499, 1);
        // 2500 * (1 / 400 - 1 / 2500)
        rest(Due.shed("ball 50 near 20 far 50;", 1), 1, 0, 21, 4);
        Due.badShed("ball 50 near ^0 far 50;", 4);
        Due.badShed("ball 50 near ^21 far 50;", 4);
    }

    private static void far() {
        Due.by("Terms 1", "far more than near, to 99");
        rest(Due.shed("ball 50 near 1 far 2;", 1), 1, 0, 1875, 1);
        // 2500 * (1 / 400 - 1 / 441) and 2500 * (1 / 25 - 1 / 9801)
        rest(Due.shed("ball 50 near 20 far 21;", 1), 1, 0, 1025, 1764);
        rest(Due.shed("ball 50 near 5 far 99;", 1), 1, 0, 977600, 9801);
        Due.badShed("ball 50 near 1 far ^1;", 4);
        Due.badShed("ball 50 near 1 far ^0;", 4);
        Due.badShed("ball 50 near 20 far ^20;", 4);
        Due.badShed("ball 50 near 20 far ^19;", 4);
        Due.badShed("ball 50 near 5 far ^100;", 4);
    }

    private static void rod() {
        Due.by("Terms 1", "rod 0 .. 99");
        rest(Due.shed("rod 0;", 1), 1, 0, 99, 1);
        rest(Due.shed("rod 99;", 1), 1, 0, 108801, 1000);
        Due.badShed("rod ^100;", 4);
    }

    private static void wire() {
        Due.by("Terms 1", "wire 1 .. 99");
        rest(Due.shed("wire 1;", 1), 1, 0, 99, 50);
        rest(Due.shed("wire 99;", 1), 1, 0, 9801, 50);
        Due.badShed("wire ^0;", 4);
        Due.badShed("wire ^100;", 4);
    }

    private static void damp() {
        Due.by("Terms 1", "damp 0 .. 100");
        Due.is("damp 0", Due.shed("damp 0;", 1).turning(0, 0, 500, 1), 0);
        Due.is("damp 100", Due.shed("damp 100;", 1).turning(0, 0, 500, 1), -500);
        Due.badShed("damp ^101;", 4);
    }

    private static void reads() {
        Due.by("Terms 1", "reads 1 .. 99");
        Due.is("reads 1", Due.shed("reads 1;", 1).turning(0, 0, 98, 0), 98);
        Due.is("reads 99", Due.shed("reads 99;", 1).turning(0, 0, 98, 0), 0);
        Due.is("reads 99", Due.shed("reads 99;", 1).turning(0, 0, 99, 0), 99);
        Due.badShed("reads ^0;", 4);
        Due.badShed("reads ^100;", 4);
    }

    private static void signedOnes() {
        Due.by("Terms 1", "V -999 .. 999.");
        for (String word : new String[] {"zero", "creep", "warm", "iron"}) {
            Due.badShed(word + " ^1000;", 4);
            Due.badShed(word + " ^-1000;", 4);
            Due.badShed(word + " ^9999;", 4);
            Due.badShed(word + " ^-9999;", 4);
        }
        for (int v : new int[] {-999, -1, 0, 1, 999}) {
            rest(Due.shed("zero " + v + ";", 1), 0, 0, v, 1);
            rest(Due.shed("creep " + v + ";", 1), 0, 10, v, 1);
            rest(Due.shed("warm " + v + ";", 1), 1, 0, 99 + v, 1);
            rest(Due.shed("iron " + v + ";", 1), -1, 0, v - 99, 1);
        }
        rest(Due.shed("zero -0;", 1), 0, 0, 0, 1);
    }

    private static String trials(String cause, int count) {
        StringBuilder text = new StringBuilder();
        for (int i = 0; i < count; i++) {
            text.append("trial ").append((char) ('a' + i)).append(" shows ").append(cause).append(';');
        }
        return text.toString();
    }

    private static void eightCausesAndTrials() {
        Due.by("Terms 1", "At most 8 CAUSES, 8 TRIALS");
        Due.is("causes", Due.shed(EIGHT_CAUSES, 8).about(0), 8);
        Due.is("all may be", Due.shed(EIGHT_CAUSES, 8).maybe(), 255);
        Due.badShed(EIGHT_CAUSES + "^cause i;", 2);
        LeadBalls x = Due.shed("cause z;" + trials("z", 8), 9);
        Due.is("trials", x.about(1), 8);
        Due.is("the last of them", x.result(7, true), true);
        Due.badShed("cause z;" + trials("z", 8) + "^trial i shows z;", 2);
        // The one kind's eight do not count with the other's.
        Due.shed(EIGHT_CAUSES + trials("h", 8), 16);
        Due.badShed(EIGHT_CAUSES + trials("h", 8) + "^cause i;", 2);
        Due.badShed(EIGHT_CAUSES + trials("h", 8) + "^trial i shows a;", 2);
    }

    private static void causesToldAhead() {
        Due.by("Terms 1", "(of CAUSES told ahead, each once).");
        Due.shed("cause b;trial t shows b;", 2);
        Due.badShed("trial t shows ^b;cause b;", 5);
        Due.badShed("cause a;trial t shows a ^b;cause b;", 5);
        Due.is("in any order", Due.shed("cause a;cause b;cause c;trial t shows c a;", 4).result(0, true), true);
        Due.shed(EIGHT_CAUSES + "trial t shows h g f e d c b a;", 9);
        Due.badShed("cause a;trial t shows a ^a;", 3);
        Due.badShed(EIGHT_CAUSES + "trial t shows a b c d e f g h ^a;", 3);
        Due.badShed(EIGHT_CAUSES + "trial t shows a b c d e f g h ^i;", 5);
        // Once in each TRIAL, not in all of them.
        Due.shed("cause a;trial t shows a;trial u shows a;", 3);
    }

    private static void cantStandThere() {
        Due.by("Terms 1", "2 one that can't stand there (a line a second time, a 9th CAUSE or TRIAL: at the line's first word);");
        Due.badShed("rod 5;  ^rod", 2);
        Due.badShed("rod 5;\n^rod 100;", 2);
        Due.badShed("ball 9 near 5 far 9;^ball 0", 2);
        Due.badShed("zero 5;creep 5;^zero $", 2);
        Due.badShed(EIGHT_CAUSES + " ^cause", 2);
        Due.badShed(EIGHT_CAUSES + " ^cause a;", 2);
        Due.badShed(EIGHT_CAUSES + " ^cause $", 2);
        Due.badShed("cause z;" + trials("z", 8) + "\n^trial", 2);
        Due.badShed("cause z;" + trials("z", 8) + "\n^trial a shows y;", 2);
    }

    private static void toldAlready() {
        Due.by("Terms 1", "3 a NAME told already (of its own kind; a CAUSE twice in a TRIAL);");
        Due.badShed("cause a;cause ^a;", 3);
        Due.badShed("cause a;cause b;cause ^b", 3);
        Due.badShed("cause a;trial t shows a;trial ^t shows a;", 3);
        Due.badShed("cause a;trial t shows a ^a", 3);
        Due.badShed("cause a;cause b;trial t shows b a ^b", 3);
        Due.badShed("cause a;cause b;trial t shows b a ^a", 3);
        // A CAUSE and a TRIAL are of two kinds.
        Due.shed("cause a;cause b;trial a shows a;trial b shows a;", 4);
        Due.badShed("cause a;trial t shows ^t;", 5);
        // What a faulty text, or the shed ahead, told is not told in this one.
        LeadBalls x = Due.shed("cause a;trial t shows a;", 2);
        Due.badShed(x, "cause a;trial t shows a;^$", 1);
        Due.shed(x, "cause a;trial t shows a;", 2);
    }

    private static void cantBe() {
        Due.by("Terms 1", "4 a number that can't be;");
        Due.badShed("ball ^0", 4);
        Due.badShed("ball 5 near ^0", 4);
        Due.badShed("ball 5 near 5 far ^5", 4);
        Due.badShed("wire ^0", 4);
        Due.badShed("wire ^0000;", 4);
        Due.badShed("rod ^0100;", 4);
        Due.badShed("iron ^-1000", 4);
    }

    private static void noCauseHasIt() {
        Due.by("Terms 1", "5 a NAME that no CAUSE has.");
        Due.badShed("trial t shows ^a", 5);
        Due.badShed("cause a;trial t shows ^b", 5);
        Due.badShed("cause a;trial t shows a ^aa", 5);
        // A CAUSE of the shed ahead, or of a faulty text, is none.
        LeadBalls x = Due.shed("cause a;", 1);
        Due.badShed(x, "trial t shows ^a", 5);
        Due.badShed(x, "cause b;^$", 1);
        Due.badShed(x, "trial t shows ^b", 5);
    }

    private static void becomesTheShed() {
        Due.by("Promise 4", "The TAPE (empty then) is THE SHED");
        LeadBalls x = new LeadBalls();
        Due.shed(x, "zero 7;cause a;", 2);
        Due.is("no bytes are left", x.about(6), 0);
        Due.is("zero", x.rest(0, 0, 0), 7);
        Due.is("nothing is on the tape then", x.shed(), 0);
        Due.is("so the shed is empty", x.rest(0, 0, 0), 0);
        Due.is("and has no causes", x.about(0), 0);
        Due.badShed(x, "zero 7;^$", 1);
        Due.is("the tape is empty behind a fault, too", x.about(6), 0);
    }

    private static void resultsAreNoneThen() {
        Due.by("Promise 4", "(RESULTS are none then)");
        String text = "cause a;cause b;trial t shows a;";
        LeadBalls x = Due.shed(text, 3);
        x.result(0, true);
        Due.is("maybe()", x.maybe(), 1);
        Due.shed(x, text, 3);
        Due.is("maybe()", x.maybe(), 3);
        Due.is("next()", x.next(), 0);
        Due.is("it can be told again", x.result(0, true), true);
    }

    private static void howManyLines() {
        Due.by("Promise 4", "how many lines");
        Due.shed("", 0);
        Due.shed("iron -5;", 1);
        Due.shed(ALL_ONCE, 9);
        Due.shed("cause a;cause b;trial t shows a b;rod 5;", 4);
    }

    private static void allStays() {
        Due.by("Promise 4", "NONE: a FAULT (all stays).");
        String text = "ball 1 near 1 far 2;wire 4;rod 8;damp 50;reads 3;zero 7;creep 10;warm 20;iron 300;"
            + "cause a;cause b;trial t shows a;trial u shows a b;";
        LeadBalls x = Due.shed(text, 13);
        x.result(0, true);
        // The fault stands at the very end, when all of the new text but its last sign has been seen.
        Due.badShed(x, "ball 9 near 9 far 99;wire 9;rod 9;damp 9;reads 9;zero 9;creep 9;warm 9;iron 9;"
            + "cause x;cause y;cause z;trial v shows x;trial w shows y;trial s shows z^", 2);
        // PULL 4 * 1.008 * 3 / 4 = 3.024; zero + creep + iron + warm are 337.
        rest(x, 1, 10, 42503, 125);
        // 7 - 93 * 0.5 = -39.5, read by threes.
        Due.is("damp and reads", x.turning(0, 0, 100, 1), -42);
        Due.is("causes", x.about(0), 2);
        Due.is("trials", x.about(1), 2);
        Due.is("maybe()", x.maybe(), 1);
        Due.is("the result is so already", x.result(0, true), false);
        Due.is("the other has none", x.result(1, true), true);
        Due.is("no third trial", x.result(2, true), false);
        Due.is("answers NONE", shedOf(x, "$"), NONE);
    }

    private static int shedOf(LeadBalls x, String text) {
        Due.put(x, text);
        return x.shed();
    }
}
