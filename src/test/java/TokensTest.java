/** TOKENS and the places of FAULTS (Terms, part 1), in all three texts, and promise 7: fault. */
final class TokensTest {
    private static final int NONE = LeadBalls.NONE;
    private static final String[] WORDS = {"ball", "near", "far", "rod", "wire", "damp", "reads", "zero", "creep", "warm", "iron",
        "cause", "trial", "shows", "house", "says", "span", "cellar", "is", "prints"};

    public static void main(String[] args) {
        wordsAreShort();
        numbersAreShort();
        signs();
        blanks();
        asLongAsCanBe();
        noLetterBehindNumber();
        wordsAreNoNames();
        firstByPlace();
        placesAreBytes();
        placeOfSigned();
        leastAtOnePlace();
        noToken();
        faultOfLatest();
        placeOfLatest();
        anotherWhat();
        Due.finish();
    }

    private static void wordsAreShort() {
        Due.by("Terms 1", "TOKENS: words (a .. z, 8 at most)");
        Due.shed("cause a;cause z;cause az;", 3);
        Due.shed("cause abcdefgh;cause zzzzzzzz;cause abcdefg;", 3);
        Due.badShed("cause ^abcdefghi;", 1);
        Due.badShed("^" + "z".repeat(800), 1);
        Due.houses("house abcdefgh says 1 span 1 wire abcdefgh cellar abcdefgh;", 1);
        Due.badHouses("house ^abcdefghi says 1 span 1 wire w cellar c;", 1);
        Due.badHouses("house a says 1 span 1 wire ^abcdefghi cellar c;", 1);
        Due.badHouses("house a says 1 span 1 wire w cellar ^abcdefghi;", 1);
        Due.sum("abcdefgh is 1 prints 1;b is abcdefgh prints 1;", 2);
        Due.badSum("^abcdefghi is 1 prints 1;", 1);
        // All eight letters tell NAMES apart, the first and the last.
        Due.shed("cause abcdefgh;cause abcdefgg;cause bbcdefgh;cause abcdefg;", 4);
        // What stands next to a and z in the list of signs is no letter.
        Due.badShed("cause ^" + (char) 96 + ";", 1);
        Due.badShed("cause ^{;", 1);
        Due.badShed("cause ^A;", 1);
        Due.badShed("cause ^Z;", 1);
        Due.badShed("cause a^Z;", 1);
        Due.badShed("cause a^_b;", 1);
    }

    private static void numbersAreShort() {
        Due.by("Terms 1", "N (1 to 4 digits)");
        Due.shed("rod 5;", 1);
        Due.shed("rod 05;", 1);
        Due.shed("rod 005;", 1);
        Due.shed("rod 0005;", 1);
        Due.badShed("rod ^00005;", 1);
        Due.badShed("rod ^;", 2);
        Due.badShed("^" + "9".repeat(800), 1);
        Due.houses("house a says 9999 span 0999 wire w cellar c;", 1);
        Due.badHouses("house a says ^10000 span", 1);
        Due.sum("a is 0000+9999 prints 9999;", 1);
        Due.badSum("a is ^12345 prints 1;", 1);
        Due.badSum("a is 1 prints ^12345;", 1);
        Due.badSum("a is 1 prints -^12345;", 1);
        // All ten digits are digits; their neighbours in the list of signs are not.
        LeadBalls x = Due.sum("a is 1234+5678-90 prints 0;", 1);
        Due.is("worked", x.line(0, 0), 1234 + 5678 - 90);
        Due.badShed("rod ^/;", 1);
        Due.badShed("rod ^:;", 1);
        Due.badShed("rod 5^:;", 1);
        Due.badShed("rod 5^.0;", 1);
    }

    private static void signs() {
        Due.by("Terms 1", "signs ; -");
        Due.shed("zero -5;", 1);
        for (char c = '!'; c < 127; c++) {
            boolean token = c >= 'a' && c <= 'z' || c >= '0' && c <= '9' || c == ';' || c == '-';
            if (c != '^') {
                Due.badShed("^" + c, token ? 2 : 1);
                Due.badHouses("^" + c, token ? 2 : 1);
            }
        }
        Due.badShed("^-5", 2);
        Due.badShed("rod 5;^;", 2);
    }

    private static void blanks() {
        Due.by("Terms 1", "blanks (32, 10) part them or not");
        Due.shed("rod5;zero-5;cause a;", 3);
        Due.shed(" rod 5 ; zero - 5 ; cause a ; ", 3);
        Due.shed("\nrod\n5\n;\nzero\n-\n5\n;\n", 2);
        Due.shed(" \n \n", 0);
        Due.badShed("rod 1 ^5;", 2);
        for (int c : new int[] {0, 1, 8, 9, 11, 12, 13, 31, 33, 127, 128, 138, 160, 255}) {
            Due.badShed("rod^" + (char) c + "5;", 1);
            Due.badHouses("house^" + (char) c + "a", 1);
            Due.badSum("a^" + (char) c + "is", 1);
        }
        Due.houses("house a says1 span1 wire w cellar\nc;", 1);
        Due.sum("a is(1)+2*3 prints-7;", 1);
        Due.sum(" a is ( 1 ) + 2 * 3 prints - 7 ; ", 1);
    }

    private static void asLongAsCanBe() {
        Due.by("Terms 1", "each is as long as can be");
        Due.badShed("^rodrod 5;", 2);
        Due.badShed("^causea;", 2);
        Due.badShed("ball 5 ^nearby 5", 2);
        Due.shed("cause balls;cause bal;cause ro;cause i;cause iss;", 5);
        Due.is("one number, not two", Due.shed("zero 12;", 1).rest(0, 0, 0), 12);
        Due.badShed("zero 1 ^2;", 2);
        Due.badHouses("^housea says", 2);
        Due.badSum("ais ^1 prints 1;", 2);
        Due.badSum("a is 1 ^1", 2);
    }

    private static void noLetterBehindNumber() {
        Due.by("Terms 1", "no letter directly behind an N.");
        Due.badShed("rod ^5x;", 1);
        Due.badShed("rod ^0a", 1);
        Due.badShed("rod ^5z", 1);
        Due.badShed("ball ^5near 5 far 9;", 1);
        Due.shed("ball 5 near 5 far 9;", 1);
        Due.badShed("^5x", 1);
        Due.badShed("^5 x", 2);
        Due.badHouses("house a says ^1span 1 wire w cellar c;", 1);
        Due.badSum("a is ^1prints 1;", 1);
        Due.badSum("a is 1 prints 1;b is 2*^3a", 1);
        // A number directly behind a word is no fault, nor a sign behind a number.
        Due.shed("ball5 near5 far9;", 1);
        Due.sum("a is 1 prints 1;b is a-1 prints 0;", 2);
        // At the tape's end what was fed behind it no longer stands there.
        LeadBalls x = new LeadBalls();
        x.feed(0x726F6420, 0x353B7878, 0x78787878, 0x78787878, 0x78787878);
        x.end(5);
        Due.is("shed()", x.shed(), NONE);
        Due.is("fault(0)", x.fault(0), 2);
        Due.is("fault(1)", x.fault(1), 5);
    }

    private static void wordsAreNoNames() {
        Due.by("Terms 1", "Words that stand for themselves (in all texts: ball near far rod wire damp reads zero creep warm iron "
            + "cause trial shows house says span cellar is prints) are no NAMES.");
        for (String word : WORDS) {
            Due.badShed("cause ^" + word + ";", 2);
            Due.badShed("cause a;trial ^" + word + " shows a;", 2);
            Due.badShed("cause a;trial t shows ^" + word + ";", 2);
            Due.badShed("cause a;trial t shows a ^" + word + ";", 2);
            Due.badHouses("house ^" + word + " says 1 span 1 wire w cellar c;", 2);
            Due.badHouses("house h says 1 span 1 wire ^" + word + " cellar c;", 2);
            Due.badHouses("house h says 1 span 1 wire w cellar ^" + word + ";", 2);
            Due.badSum("^" + word + " is 1 prints 1;", 2);
            Due.badSum("a is ^" + word + " prints 1;", 2);
            // One letter more makes it a NAME.
            Due.shed("cause " + word + "x;cause x" + word + ";", 2);
        }
    }

    private static void firstByPlace() {
        Due.by("Terms 1", "FAULTS, the first by its place");
        Due.badShed("rod ^100; $", 4);
        Due.badShed("^$ rod 100;", 1);
        Due.badShed("rod 5 ^5 $;", 2);
        Due.badShed("cause a;cause ^a;rod 100;", 3);
        Due.badShed("trial t shows ^b;cause b;$", 5);
        Due.badShed("cause a;trial t shows a ^b b;", 5);
        Due.badHouses("house a says 1 span ^1000 wire 5 cellar $", 4);
        Due.badHouses("house a says ^$ span 1000", 1);
        Due.badSum("a is ^b + ) $", 5);
        Due.badSum("a is ^) + b $", 2);
        // A bad number's place is that of its sign, ahead of what stands behind the sign.
        Due.badShed("zero ^- 1000 $", 4);
        // A line a second time is at its first word, ahead of all else in it.
        Due.badShed("rod 5;^rod 100;", 2);
    }

    private static void placesAreBytes() {
        Due.by("Terms 1", "(bytes from 0; the end: the text's length;");
        Due.badShed("^$", 1);
        Due.badShed(" ^$", 1);
        Due.badShed("\n\n^$", 1);
        Due.badShed("rod^", 2);
        Due.badShed("rod 5^", 2);
        Due.badShed("rod 5  \n^", 2);
        Due.badShed("zero -^", 2);
        Due.badShed("zero - ^", 2);
        Due.badHouses("house^", 2);
        Due.badHouses("house a says 1 span 1 wire w cellar c^", 2);
        Due.badSum("a^", 2);
        Due.badSum("a is 1 +^", 2);
        Due.badSum("a is (1 ^", 2);
        Due.badShed("rod 5" + " ".repeat(795) + "^", 2);
        Due.badShed(" ".repeat(799) + "^$", 1);
    }

    private static void placeOfSigned() {
        Due.by("Terms 1", "of V its place is that of its sign, if it has one)");
        Due.badShed("zero ^-1000;", 4);
        Due.badShed("zero ^- 1000;", 4);
        Due.badShed("zero  ^-\n1000;", 4);
        Due.badShed("zero ^1000;", 4);
        Due.badShed("zero  ^1000;", 4);
        // What is no number has its own place.
        Due.badShed("zero -^x;", 2);
        Due.badShed("zero - ^-1;", 2);
        Due.badShed("zero -^10000;", 1);
        Due.badShed("zero -^1x;", 1);
        Due.badShed("zero -^;", 2);
        Due.badSum("a is 1 prints - ^- 1;", 2);
        Due.badSum("a is 1 prints -^x;", 2);
    }

    private static void leastAtOnePlace() {
        Due.by("Terms 1", "at one place the least:");
        // 1 ahead of 2: no TOKEN, and none could stand there.
        Due.badShed("rod 5;^5x", 1);
        Due.badShed("rod ^abcdefghi;", 1);
        Due.badSum("a is 1 ^12345", 1);
        // 1 ahead of 4: too many digits for any number.
        Due.badShed("rod ^10000;", 1);
        // 2 ahead of 3: a line too much, whose NAME is told already.
        StringBuilder lines = new StringBuilder();
        for (char c = 'a'; c <= 'l'; c++) {
            lines.append(c).append(" is 1 prints 1;");
        }
        Due.badSum(lines + "^a is 1 prints 1;", 2);
        // 2 ahead of 5: a unit too much, which no line ahead is called.
        Due.badSum("a is 1" + "+1".repeat(59) + "+^b prints 1;", 2);
        // 1 ahead of 2: too much, and no TOKEN.
        Due.badSum(lines + "^$", 1);
        Due.badSum("a is 1" + "+1".repeat(59) + "+^$", 1);
    }

    private static void noToken() {
        Due.by("Terms 1", "1 no TOKEN;");
        for (int c = 0; c < 256; c++) {
            boolean blank = c == ' ' || c == '\n';
            boolean token = c >= 'a' && c <= 'z' || c >= '0' && c <= '9' || c == ';' || c == '-';
            if (!blank && !token && c != '^') {
                Due.badShed("rod 5;^" + (char) c, 1);
            }
        }
        LeadBalls x = new LeadBalls();
        x.feed('^' << 24, 0, 0, 0, 0);
        Due.is("shed()", x.shed(), NONE);
        Due.is("fault(0)", x.fault(0), 1);
        Due.is("fault(1)", x.fault(1), 0);
    }

    private static void faultOfLatest() {
        Due.by("Promise 7", "Of the latest of the three what 0: its FAULT (0)");
        LeadBalls x = new LeadBalls();
        Due.is("none yet", x.fault(0), 0);
        Due.badShed(x, "^$", 1);
        Due.badHouses(x, "^rod", 2);
        Due.badSum(x, "a is 1 prints 1;^a", 3);
        Due.badShed(x, "rod ^100", 4);
        Due.badSum(x, "a is ^b", 5);
        Due.shed(x, "rod 5;", 1);
        Due.is("a good one has none", x.fault(0), 0);
        Due.badHouses(x, "^$", 1);
        x.feed(0, 0, 0, 0, 0);
        x.end(3);
        Due.is("feed and end are none of the three", x.fault(0), 1);
        x.end(0);
        Due.sum(x, "", 0);
        Due.is("nor has an empty one", x.fault(0), 0);
    }

    private static void placeOfLatest() {
        Due.by("Promise 7", "1: its place (NONE).");
        LeadBalls x = new LeadBalls();
        Due.is("none yet", x.fault(1), NONE);
        Due.badShed(x, "rod 5;  ^$", 1);
        x.feed(0, 0, 0, 0, 0);
        x.end(0);
        Due.is("feed and end are none of the three", x.fault(1), 8);
        Due.houses(x, "", 0);
        Due.is("none", x.fault(1), NONE);
        Due.badSum(x, "^$", 1);
        Due.is("at 0", x.fault(1), 0);
        Due.shed(x, "", 0);
        Due.is("none", x.fault(1), NONE);
    }

    private static void anotherWhat() {
        Due.by("Promise 7", "NONE for another what.");
        LeadBalls x = new LeadBalls();
        Due.badShed(x, "rod 5;^$", 1);
        for (int what : new int[] {-1, 2, 3, Integer.MIN_VALUE, Integer.MAX_VALUE}) {
            Due.is("fault(" + what + ")", x.fault(what), NONE);
        }
    }
}
