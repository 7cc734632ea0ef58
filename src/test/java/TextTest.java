/** Promises 4 to 7: shed, houses, sum, fault; the texts, their FAULTS and the places of these. */
final class TextTest {
    private static final String HOUSE = "house a says 1 span 1 wire w cellar c;";

    public static void main(String[] args) {
        tokens();
        shedLines();
        shedFaults();
        causesAndTrials();
        housesTexts();
        sumTexts();
        sumLimits();
        whatStays();
        longestTexts();
        Due.finish();
    }

    private static void tokens() {
        LeadBalls x = new LeadBalls();
        Due.shed(x, "", 0);
        Due.shed(x, " \n ", 0);
        Due.shed(x, "rod5;wire\n6\n;\n", 2);
        Due.shed(x, "rod 0005;", 1);
        Due.shed(x, "cause abcdefgh;", 1);
        Due.badShed(x, "cause abcdefghi;", 1, 6);
        Due.badShed(x, "rod 00005;", 1, 4);
        Due.badShed(x, "rod 5x;", 1, 4);
        Due.badShed(x, "rod 0x;", 1, 4);
        Due.badShed(x, "5x", 1, 0);
        Due.badShed(x, "5 x", 2, 0);
        Due.badShed(x, "Rod 5;", 1, 0);
        Due.badShed(x, "rod\t5;", 1, 3);
        Due.badShed(x, "rod 5\r;", 1, 5);
        Due.badShed(x, "rod 5" + (char) 0, 1, 5);
        Due.badShed(x, "rod 5;" + (char) 233, 1, 6);
        Due.badShed(x, "rod 5 +;", 1, 6);
        Due.badHouses(x, "house a says (", 1, 13);
        Due.badSum(x, "a is 1 prints 1; $", 1, 17);
        Due.badSum(x, "a is 1x", 1, 5);
        Due.badSum(x, "a is 12345", 1, 5);
        // Words of all texts are no NAMES in any of them.
        String[] words = {"ball", "near", "far", "rod", "wire", "damp", "reads", "zero", "creep", "warm", "iron", "cause",
            "trial", "shows", "house", "says", "span", "cellar", "is", "prints"};
        for (String word : words) {
            Due.badShed(x, "cause " + word + ";", 2, 6);
            Due.badHouses(x, "house " + word + " says", 2, 6);
            Due.badHouses(x, "house h says 1 span 1 wire " + word, 2, 27);
            Due.badHouses(x, "house h says 1 span 1 wire w cellar " + word, 2, 36);
            Due.badSum(x, word + " is 1", 2, 0);
            Due.badSum(x, "a is " + word, 2, 5);
        }
        Due.shed(x, "cause balls;cause bal;cause i;", 3);
    }

    private static void shedLines() {
        LeadBalls x = new LeadBalls();
        Due.shed(x, "ball 1 near 1 far 2;rod 0;wire 1;damp 0;reads 1;zero -999;creep -999;warm -999;iron -999;", 9);
        Due.shed(x, "ball 99 near 20 far 99;rod 99;wire 99;damp 100;reads 99;zero 999;creep 999;warm 999;iron 999;", 9);
        Due.shed(x, "zero-0;creep - 5;", 2);
        Due.shed(x, "ball 9 near 20 far 21;", 1);
    }

    private static void shedFaults() {
        LeadBalls x = new LeadBalls();
        Due.badShed(x, "ball 0", 4, 5);
        Due.badShed(x, "ball 100", 4, 5);
        Due.badShed(x, "ball 5 near 0", 4, 12);
        Due.badShed(x, "ball 5 near 21", 4, 12);
        Due.badShed(x, "ball 5 near 20 far 20", 4, 19);
        Due.badShed(x, "ball 5 near 5 far 100", 4, 18);
        Due.badShed(x, "ball 5 far", 2, 7);
        Due.badShed(x, "ball 5 near 5 ;", 2, 14);
        Due.badShed(x, "ball -5", 2, 5);
        Due.badShed(x, "rod 100", 4, 4);
        Due.badShed(x, "rod -1", 2, 4);
        Due.badShed(x, "wire 0", 4, 5);
        Due.badShed(x, "wire 100", 4, 5);
        Due.badShed(x, "damp 101", 4, 5);
        Due.badShed(x, "reads 0", 4, 6);
        Due.badShed(x, "reads 100", 4, 6);
        for (String word : new String[] {"zero", "warm", "iron"}) {
            Due.badShed(x, word + " 1000", 4, 5);
            Due.badShed(x, word + "  - 1000", 4, 6);
            Due.badShed(x, word + " - -1", 2, 7);
            Due.badShed(x, word + " -", 2, 6);
            Due.badShed(x, word + " - ", 2, 7);
            Due.badShed(x, word + " -10000", 1, 6);
        }
        Due.badShed(x, "creep 1000", 4, 6);
        Due.badShed(x, "creep 1 2", 2, 8);
        Due.badShed(x, "near 5", 2, 0);
        Due.badShed(x, "far 5", 2, 0);
        Due.badShed(x, "hello", 2, 0);
        Due.badShed(x, ";", 2, 0);
        Due.badShed(x, "rod 5;;", 2, 6);
        Due.badShed(x, "rod 5", 2, 5);
        Due.badShed(x, "rod 5  \n", 2, 8);
        Due.badShed(x, "rod", 2, 3);
        for (String line : new String[] {"ball 5 near 5 far 9", "rod 1", "wire 1", "damp 1", "reads 1", "zero 1", "creep 1",
            "warm 1", "iron 1"}) {
            Due.badShed(x, line + "; " + line + ";", 2, line.length() + 2);
        }
        // The first by its place, not the worst.
        Due.badShed(x, "rod 100; $", 4, 4);
        Due.badShed(x, "$ rod 100;", 1, 0);
    }

    private static void causesAndTrials() {
        LeadBalls x = new LeadBalls();
        String eight = "cause a;cause b;cause c;cause d;cause e;cause f;cause g;cause h;";
        Due.shed(x, eight, 8);
        Due.badShed(x, eight + "cause i;", 2, 64);
        Due.badShed(x, eight + "cause a;", 2, 64);
        Due.shed(x, eight + "trial a shows a b c d e f g h;", 9);
        Due.badShed(x, eight + "trial a shows a b c d e f g h a;", 3, 94);
        Due.badShed(x, eight + "trial a shows a b c d e f g h i;", 5, 94);
        StringBuilder trials = new StringBuilder("cause z;");
        for (char c = 'a'; c <= 'h'; c++) {
            trials.append("trial ").append(c).append(" shows z;");
        }
        Due.shed(x, trials.toString(), 9);
        Due.badShed(x, trials + " trial i shows z;", 2, trials.length() + 1);
        Due.badShed(x, "cause a;trial a shows a;trial a shows a;", 3, 30);
        Due.badShed(x, "cause a;cause b;cause a;", 3, 22);
        Due.badShed(x, "cause a b;", 2, 8);
        Due.badShed(x, "cause 5;", 2, 6);
        Due.badShed(x, "cause a;trial t shows;", 2, 21);
        Due.badShed(x, "cause a;trial t shows 5;", 2, 22);
        Due.badShed(x, "cause a;trial t shows a 5;", 2, 24);
        Due.badShed(x, "cause a;trial t shows a b;cause b;", 5, 24);
        Due.badShed(x, "cause a;trial t shows a a", 3, 24);
        Due.badShed(x, "trial t t", 2, 8);
        Due.badShed(x, "cause a;trial t shows a", 2, 23);
    }

    private static void housesTexts() {
        LeadBalls x = new LeadBalls();
        Due.houses(x, HOUSE, 1);
        Due.houses(x, "house a says 9999 span 999 wire a cellar a;house b says 0 span 0 wire a cellar a;", 2);
        Due.houses(x, "", 0);
        StringBuilder twelve = new StringBuilder();
        for (char c = 'a'; c <= 'l'; c++) {
            twelve.append("house ").append(c).append(" says 1 span 1 wire w cellar c;");
        }
        Due.houses(x, twelve.toString(), 12);
        Due.badHouses(x, twelve + "\nhouse m says", 2, twelve.length() + 1);
        Due.badHouses(x, twelve + "\n$", 1, twelve.length() + 1);
        Due.badHouses(x, HOUSE + HOUSE, 3, HOUSE.length() + 6);
        Due.badHouses(x, "house a says 1 span 1000", 4, 20);
        Due.badHouses(x, "house a says 10000", 1, 13);
        Due.badHouses(x, "house a says -1", 2, 13);
        Due.badHouses(x, "house a says x", 2, 13);
        Due.badHouses(x, "house 1", 2, 6);
        Due.badHouses(x, "house a 1", 2, 8);
        Due.badHouses(x, "house a says 1 wire", 2, 15);
        Due.badHouses(x, "house a says 1 span 1 cellar", 2, 22);
        Due.badHouses(x, "house a says 1 span 1 wire 5", 2, 27);
        Due.badHouses(x, "house a says 1 span 1 wire w cellar 5", 2, 36);
        Due.badHouses(x, "house a says 1 span 1 wire w cellar c", 2, 37);
        Due.badHouses(x, "house a says 1 span 1 wire w cellar c d", 2, 38);
        Due.badHouses(x, "rod 5;", 2, 0);
    }

    private static void sumTexts() {
        LeadBalls x = new LeadBalls();
        Due.sum(x, "a is 1 prints 1;", 1);
        Due.sum(x, "a is 9999 prints -9999;b is a prints 9999;", 2);
        Due.sum(x, "a is((1)+2)*3-4/5 prints-1;", 1);
        Due.badSum(x, "a is((1)+2)*3-4/5prints-1;", 1, 16);
        Due.badSum(x, "1", 2, 0);
        Due.badSum(x, "a 1", 2, 2);
        Due.badSum(x, "a is -1", 2, 5);
        Due.badSum(x, "a is )", 2, 5);
        Due.badSum(x, "a is 1)", 2, 6);
        Due.badSum(x, "a is (1 prints", 2, 8);
        Due.badSum(x, "a is ()", 2, 6);
        Due.badSum(x, "a is 1 2", 2, 7);
        Due.badSum(x, "a is 1 + * 2", 2, 9);
        Due.badSum(x, "a is 1;", 2, 6);
        Due.badSum(x, "a is 1 prints ;", 2, 14);
        Due.badSum(x, "a is 1 prints - - 1;", 2, 16);
        Due.badSum(x, "a is 1 prints 1", 2, 15);
        Due.badSum(x, "a is 1 prints 1 +", 2, 16);
        Due.badSum(x, "a is 1 prints (", 2, 14);
        Due.badSum(x, "a is 1 prints -12345", 1, 15);
        Due.badSum(x, "a is b", 5, 5);
        Due.badSum(x, "a is a", 5, 5);
        Due.badSum(x, "a is 1 prints 1;b is a+(c", 5, 24);
        Due.badSum(x, "a is 1 prints 1;a is", 3, 16);
        Due.badSum(x, "a is 1 prints 1;b is 1 prints 1;c is a*b-d prints 1;d is 1 prints 1;", 5, 41);
    }

    private static void sumLimits() {
        LeadBalls x = new LeadBalls();
        StringBuilder twelve = new StringBuilder();
        for (char c = 'a'; c <= 'l'; c++) {
            twelve.append(c).append(" is 1 prints 1;");
        }
        Due.sum(x, twelve.toString(), 12);
        Due.badSum(x, twelve + " m is 1", 2, twelve.length() + 1);
        Due.badSum(x, twelve + " a is 1", 2, twelve.length() + 1);
        Due.badSum(x, twelve + " #", 1, twelve.length() + 1);
        Due.sum(x, "a is (((((((1))))))) prints 1;", 1);
        Due.is("units", x.about(7), 8);
        Due.badSum(x, "a is ((((((((1)))))))) prints 1;", 2, 12);
        // Beside is not within.
        Due.sum(x, "a is (1)+(1)+(1)+(1)+(1)+(1)+(1)+(1)+(1) prints 9;", 1);
        Due.is("units", x.about(7), 18);
        String fiftyNine = "1" + "+1".repeat(58);
        Due.sum(x, "a is " + fiftyNine + "+1 prints 0;", 1);
        Due.is("units", x.about(7), 60);
        Due.badSum(x, "a is " + fiftyNine + "+1+1", 2, 125);
        Due.badSum(x, "a is " + fiftyNine + "+1+z", 2, 125);
        Due.badSum(x, "a is " + fiftyNine + "+1+(", 2, 125);
        Due.badSum(x, "a is " + fiftyNine + "+1+", 2, 125);
        Due.badSum(x, "a is " + fiftyNine + "+1+$", 1, 125);
        // A ( is a unit where it stands, ahead of what it holds.
        Due.badSum(x, "a is " + fiftyNine + "+(1)", 2, 124);
        Due.badSum(x, "a is " + fiftyNine + " prints 1;b is a+1", 2, 5 + 117 + 17);
        Due.badSum(x, "a is " + fiftyNine + "*(1+(", 2, 124);
    }

    private static void whatStays() {
        LeadBalls x = new LeadBalls();
        Due.shed(x, "zero 7;cause a;cause b;trial t shows a;", 4);
        Due.houses(x, HOUSE, 1);
        Due.sum(x, "a is 2*3 prints 5;", 1);
        x.result(0, true);
        Due.badShed(x, "zero 8;cause z;cause y;cause x;trial u shows z;trial", 2, 52);
        Due.badHouses(x, "house b says 5 span 1 wire w cellar c; house", 2, 44);
        Due.badSum(x, "b is 1+1+1 prints 9; c", 2, 22);
        Due.is("zero stays", x.rest(0, 0, 0), 7);
        Due.is("causes stay", x.about(0), 2);
        Due.is("results stay", x.maybe(), 1);
        Due.is("houses stay", x.about(2), 1);
        Due.is("lines stay", x.about(3), 1);
        Due.is("units stay", x.about(7), 2);
        Due.is("worked stays", x.line(0, 0), 6);
        Due.is("right stays", x.right(), 6);
        // A shed that is read is whole by itself: nothing of the one ahead is left.
        Due.shed(x, "creep 5;", 1);
        Due.is("zero is gone", x.rest(0, 0, 0), 0);
        Due.is("causes are gone", x.about(0), 0);
        Due.is("trials are gone", x.about(1), 0);
        Due.is("maybe is gone", x.maybe(), 0);
        Due.is("houses stay", x.about(2), 1);
        Due.houses(x, "", 0);
        Due.is("no houses", x.agree(0), LeadBalls.NONE);
        Due.sum(x, "", 0);
        Due.is("no units", x.about(7), 0);
        Due.is("no lines", x.right(), LeadBalls.GAP);
    }

    private static void longestTexts() {
        LeadBalls x = new LeadBalls();
        Due.shed(x, "rod 5;" + " ".repeat(794), 1);
        Due.badShed(x, "rod 5" + " ".repeat(795), 2, 800);
        Due.badShed(x, "z".repeat(800), 1, 0);
        Due.badShed(x, "9".repeat(800), 1, 0);
        Due.badSum(x, "a is " + "(".repeat(795), 2, 12);
    }
}
