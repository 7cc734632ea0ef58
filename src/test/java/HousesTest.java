/** HOUSES (Terms, part 4) and promises 5 and 17: houses, agree. */
final class HousesTest {
    private static final int NONE = LeadBalls.NONE;
    private static final int MORE = 0;
    private static final int OUT = 1;
    private static final int MOST = 2;
    private static final int APART = 3;
    private static final String HOUSE = "house a says 1 span 1 wire w cellar c;";

    public static void main(String[] args) {
        longestText();
        noneAtFirst();
        eachPiece();
        twelveAtMost();
        says();
        span();
        anyNames();
        faults();
        lets();
        more();
        out();
        most();
        apart();
        becomesHouses();
        howMany();
        thoseThereAreStay();
        agreeWhat();
        agreeNone();
        Due.finish();
    }

    private static String house(String name, int says, int span, String wire, String cellar) {
        return "house " + name + " says " + says + " span " + span + " wire " + wire + " cellar " + cellar + ";";
    }

    /** Pairs of says and span; each house has a wire and a cellar of its own. */
    private static LeadBalls told(int... pairs) {
        StringBuilder text = new StringBuilder();
        for (int i = 0; i < pairs.length; i += 2) {
            String name = String.valueOf((char) ('a' + i / 2));
            text.append(house(name, pairs[i], pairs[i + 1], name, name));
        }
        return Due.houses(text.toString(), pairs.length / 2);
    }

    /** Pairs of wires and cellars, a letter each: "wc vd" are two houses that share nothing. */
    private static int partsOf(String pairs) {
        StringBuilder text = new StringBuilder();
        String[] all = pairs.split(" ");
        for (int i = 0; i < all.length; i++) {
            text.append(house(String.valueOf((char) ('a' + i)), 1, 1, all[i].substring(0, 1), all[i].substring(1)));
        }
        return Due.houses(text.toString(), all.length).agree(APART);
    }

    private static String many(int count) {
        StringBuilder text = new StringBuilder();
        for (int i = 0; i < count; i++) {
            text.append(house(String.valueOf((char) ('a' + i)), 1, 1, "w", "c"));
        }
        return text.toString();
    }

    private static void longestText() {
        Due.by("Terms 4", "HOUSES are a text of at most 800 bytes");
        LeadBalls x = Due.houses(" ".repeat(800 - HOUSE.length()) + HOUSE, 1);
        Due.is("the last byte counts", x.agree(MORE), 0);
        Due.badHouses(" ".repeat(801 - HOUSE.length()) + HOUSE.replace(";", "^"), 2);
        Due.badHouses(HOUSE + " ".repeat(799 - HOUSE.length()) + "^$", 1);
    }

    private static void noneAtFirst() {
        Due.by("Terms 4", "(none at first)");
        LeadBalls x = new LeadBalls();
        Due.is("about(2)", x.about(2), 0);
        Due.is("agree(0)", x.agree(MORE), NONE);
    }

    private static void eachPiece() {
        Due.by("Terms 4", "houses = {house NAME says N span N wire NAME cellar NAME ;}");
        Due.houses("", 0);
        Due.houses(" \n ", 0);
        Due.houses(HOUSE, 1);
        Due.houses(HOUSE + "\nhouse b says 1 span 1 wire w cellar c ;", 2);
        Due.badHouses("^a says 1 span 1 wire w cellar c;", 2);
        Due.badHouses("^rod 5;", 2);
        Due.badHouses("^;", 2);
        Due.badHouses("house ^says 1 span 1 wire w cellar c;", 2);
        Due.badHouses("house ^1 says", 2);
        Due.badHouses("house a ^1 span 1 wire w cellar c;", 2);
        Due.badHouses("house a says ^span 1 wire w cellar c;", 2);
        Due.badHouses("house a says ^x span", 2);
        Due.badHouses("house a says 1 ^1 wire w cellar c;", 2);
        Due.badHouses("house a says 1 ^wire w cellar c;", 2);
        Due.badHouses("house a says 1 span ^wire w cellar c;", 2);
        Due.badHouses("house a says 1 span 1 ^w cellar c;", 2);
        Due.badHouses("house a says 1 span 1 ^cellar c wire w;", 2);
        Due.badHouses("house a says 1 span 1 wire ^cellar c;", 2);
        Due.badHouses("house a says 1 span 1 wire ^5 cellar c;", 2);
        Due.badHouses("house a says 1 span 1 wire w ^c;", 2);
        Due.badHouses("house a says 1 span 1 wire w cellar ^;", 2);
        Due.badHouses("house a says 1 span 1 wire w cellar ^5;", 2);
        Due.badHouses("house a says 1 span 1 wire w cellar c ^d;", 2);
        Due.badHouses("house a says 1 span 1 wire w cellar c ^house", 2);
        Due.badHouses("house a says 1 span 1 wire w cellar c^", 2);
        Due.badHouses(HOUSE + "^;", 2);
        Due.badHouses("house a ^house b says 1 span 1 wire w cellar c;", 2);
        Due.cutShort("house a says 1 span 1 wire w cellar c ;", text -> Due.badHouses(text, 2));
    }

    private static void twelveAtMost() {
        Due.by("Terms 4", "12 at most");
        Due.is("eleven", Due.houses(many(11), 11).about(2), 11);
        Due.is("twelve", Due.houses(many(12), 12).about(2), 12);
        Due.badHouses(many(12) + "^house m says 1 span 1 wire w cellar c;", 2);
        // The twelfth counts as the others do.
        LeadBalls x = Due.houses(many(11) + house("l", 5, 1, "v", "d"), 12);
        Due.is("more", x.agree(MORE), 1);
        Due.is("out", x.agree(OUT), 1 << 11);
        Due.is("most", x.agree(MOST), 11);
        Due.is("apart", x.agree(APART), 2);
    }

    private static void says() {
        Due.by("Terms 4", "(says 0 .. 9999");
        Due.is("both ends", told(0, 0, 9999, 0).agree(MORE), 5000);
        Due.is("both ends", told(0, 1, 9999, 1).agree(MORE), 4999);
        Due.badHouses("house a says ^-1 span 1 wire w cellar c;", 2);
        // No number of four digits is more, and five digits are no TOKEN.
        Due.badHouses("house a says ^10000 span 1 wire w cellar c;", 1);
        Due.badHouses("house a says ^00001 span 1 wire w cellar c;", 1);
    }

    private static void span() {
        Due.by("Terms 4", "span 0 .. 999;");
        Due.is("nothing", told(5, 0, 5, 0).agree(MORE), 0);
        Due.is("nothing", told(5, 0, 6, 0).agree(MORE), 1);
        Due.is("the widest", told(0, 999, 1998, 999).agree(MORE), 0);
        Due.is("the widest", told(0, 999, 1999, 999).agree(MORE), 1);
        Due.badHouses("house a says 1 span ^1000 wire w cellar c;", 4);
        Due.badHouses("house a says 1 span ^9999 wire w cellar c;", 4);
        Due.badHouses("house a says 1 span ^-1 wire w cellar c;", 2);
    }

    private static void anyNames() {
        Due.by("Terms 4", "wires, cellars are called any NAMES).");
        Due.houses(house("a", 1, 1, "a", "a") + house("b", 1, 1, "a", "a"), 2);
        Due.houses(house("a", 1, 1, "b", "c") + house("b", 1, 1, "c", "b"), 2);
        Due.houses(house("a", 1, 1, "zzzzzzzz", "abcdefgh"), 1);
    }

    private static void faults() {
        Due.by("Terms 4", "FAULTS 1, 2 (a 13th: at its first word), 3 (a house's NAME told already), 4.");
        Due.badHouses("^$", 1);
        Due.badHouses("house a says 1 ^(", 1);
        Due.badHouses(many(12) + "\n^house", 2);
        Due.badHouses(many(12) + "\n^house a says 1000 $", 2);
        Due.badHouses(many(12) + " ^x", 2);
        Due.badHouses(many(12) + " ^$", 1);
        Due.badHouses(HOUSE + "house ^a", 3);
        Due.badHouses(many(11) + "house ^a", 3);
        Due.badHouses(many(11) + "house ^k says 1", 3);
        Due.badHouses("house a says 1 span ^1000", 4);
        // A wire's or a cellar's NAME is none of a house, nor is one of the houses ahead, or of a faulty text.
        LeadBalls x = Due.houses(house("a", 1, 1, "b", "c") + house("b", 1, 1, "b", "c") + house("c", 1, 1, "a", "b"), 3);
        Due.badHouses(x, HOUSE + "^$", 1);
        Due.houses(x, HOUSE, 1);
    }

    private static void lets() {
        Due.by("Terms 4", "A HOUSE lets what is from says - span to says + span.");
        // Ends that touch are let by both; one more between them by none.
        Due.is("touching", told(5, 1, 7, 1).agree(MORE), 0);
        Due.is("touching", told(5, 1, 7, 1).agree(OUT), 0);
        Due.is("touching", told(7, 1, 5, 1).agree(OUT), 0);
        Due.is("not touching", told(5, 1, 8, 1).agree(OUT), 1);
        Due.is("not touching", told(8, 1, 5, 1).agree(MORE), 1);
        // What is let may be below 0, or above 9999.
        Due.is("below 0", told(0, 9, 1, 9).agree(OUT), 0);
        Due.is("above 9999", told(9999, 9, 9998, 9).agree(OUT), 0);
        Due.is("one within another", told(100, 999, 100, 0).agree(MORE), 0);
    }

    private static void more() {
        Due.by("Terms 4", "MORE: the least whole number by which each span, more by it, lets all HOUSES let one whole number.");
        Due.is("one house", told(5, 0).agree(MORE), 0);
        Due.is("touching", told(5, 1, 7, 1).agree(MORE), 0);
        Due.is("overlapping is not less than nothing", told(5, 9, 7, 9).agree(MORE), 0);
        Due.is("side by side", told(5, 1, 8, 1).agree(MORE), 1);
        Due.is("one between", told(5, 1, 9, 1).agree(MORE), 1);
        Due.is("two between", told(5, 1, 10, 1).agree(MORE), 2);
        Due.is("three between", told(5, 1, 11, 1).agree(MORE), 2);
        Due.is("the farthest count", told(5, 0, 50, 9, 20, 0).agree(MORE), 18);
        Due.is("the widest", told(0, 0, 9999, 0).agree(MORE), 5000);
        Due.is("each span counts", told(5, 3, 20, 0, 12, 0).agree(MORE), 6);
    }

    private static void out() {
        Due.by("Terms 4", "OUT: the fewest HOUSES without which (MORE 0) the others let one whole number; of like ones the least number "
            + "(as bits).");
        Due.is("one house", told(5, 0).agree(OUT), 0);
        Due.is("none out", told(5, 1, 6, 1, 7, 1).agree(OUT), 0);
        Due.is("the second", told(5, 1, 50, 1, 7, 1).agree(OUT), 2);
        Due.is("of like ones the least", told(5, 0, 6, 0).agree(OUT), 1);
        Due.is("of like ones the least", told(6, 0, 5, 0).agree(OUT), 1);
        Due.is("pairs", told(5, 0, 6, 0, 5, 0, 6, 0).agree(OUT), 5);
        Due.is("pairs", told(6, 0, 5, 0, 6, 0, 5, 0).agree(OUT), 5);
        Due.is("pairs", told(5, 0, 6, 0, 6, 0, 5, 0).agree(OUT), 6);
        Due.is("a chain", told(1, 1, 3, 1, 5, 1).agree(OUT), 1);
        Due.is("a chain", told(5, 1, 3, 1, 1, 1).agree(OUT), 1);
        Due.is("fewest, not least", told(9, 0, 1, 0, 9, 0).agree(OUT), 2);
        // The first and the last let 6, the second and the third 9.
        Due.is("the last one lets from 0 on", told(6, 0, 9, 0, 9, 0, 3, 3).agree(OUT), 6);
        Due.is("twelve apart", told(0, 0, 1, 0, 2, 0, 3, 0, 4, 0, 5, 0, 6, 0, 7, 0, 8, 0, 9, 0, 10, 0, 11, 0).agree(OUT), 2047);
    }

    private static void most() {
        Due.by("Terms 4", "MOST: how many let one.");
        Due.is("one house", told(5, 0).agree(MOST), 1);
        Due.is("all three", told(5, 1, 6, 1, 7, 1).agree(MOST), 3);
        Due.is("two of three", told(5, 1, 50, 1, 7, 1).agree(MOST), 2);
        Due.is("one of two", told(5, 0, 6, 0).agree(MOST), 1);
        Due.is("each two of three, not all", told(1, 1, 3, 1, 5, 1).agree(MOST), 2);
        Due.is("twelve", told(5, 0, 5, 0, 5, 0, 5, 0, 5, 0, 5, 0, 5, 0, 5, 0, 5, 0, 5, 0, 5, 0, 5, 0).agree(MOST), 12);
        Due.is("twelve apart", told(0, 0, 1, 0, 2, 0, 3, 0, 4, 0, 5, 0, 6, 0, 7, 0, 8, 0, 9, 0, 10, 0, 11, 0).agree(MOST), 1);
    }

    private static void apart() {
        Due.by("Terms 4", "APART: parts of HOUSES, of which no two share a wire or a cellar, also through others.");
        Due.is("one", partsOf("wc"), 1);
        Due.is("nothing shared", partsOf("wc vd"), 2);
        Due.is("a wire", partsOf("wc wd"), 1);
        Due.is("a cellar", partsOf("wc vc"), 1);
        Due.is("both", partsOf("wc wc"), 1);
        Due.is("a wire is no cellar", partsOf("wc cw"), 2);
        Due.is("through another, told behind", partsOf("wc vd wd"), 1);
        Due.is("through another, told between", partsOf("wc wd vd"), 1);
        Due.is("through another, told ahead", partsOf("wd wc vd"), 1);
        Due.is("through many", partsOf("aa bb cc dd ee ff gg ab bc cd de ef"), 2);
        Due.is("three parts", partsOf("pp qq rr pr ss qt"), 3);
        Due.is("joined already, and shared again", partsOf("aa bb ab ab"), 1);
        LeadBalls x = Due.houses(house("a", 1, 1, "p", "p") + house("b", 1, 1, "q", "q") + house("c", 1, 1, "p", "q"), 3);
        Due.is("asked once", x.agree(APART), 1);
        Due.is("asked again", x.agree(APART), 1);
        Due.is("twelve parts", partsOf("aa bb cc dd ee ff gg hh ii jj kk ll"), 12);
        Due.is("one part of twelve", partsOf("wa wb wc wd we wf wg wh wi wj wk wl"), 1);
    }

    private static void becomesHouses() {
        Due.by("Promise 5", "The TAPE (empty then) is HOUSES");
        LeadBalls x = told(5, 0, 6, 0);
        Due.is("no bytes are left", x.about(6), 0);
        Due.is("out", x.agree(OUT), 1);
        Due.houses(x, HOUSE, 1);
        Due.is("those ahead are gone", x.agree(OUT), 0);
        Due.is("nothing is on the tape then", x.houses(), 0);
        Due.is("so there are none", x.agree(OUT), NONE);
        Due.badHouses(x, HOUSE + "^$", 1);
        Due.is("the tape is empty behind a fault, too", x.about(6), 0);
    }

    private static void howMany() {
        Due.by("Promise 5", "how many");
        Due.houses("", 0);
        Due.houses(many(1), 1);
        Due.houses(many(12), 12);
    }

    private static void thoseThereAreStay() {
        Due.by("Promise 5", "NONE: a FAULT (those there are stay).");
        LeadBalls x = told(5, 0, 9, 0, 9, 0);
        Due.badHouses(x, many(8).replace("says 1", "says 77") + HOUSE.replace(" a ", " z ").replace(";", "^"), 2);
        Due.is("about(2)", x.about(2), 3);
        Due.is("more", x.agree(MORE), 2);
        Due.is("out", x.agree(OUT), 1);
        Due.is("most", x.agree(MOST), 2);
        Due.is("apart", x.agree(APART), 3);
        LeadBalls y = new LeadBalls();
        Due.badHouses(y, HOUSE + "^$", 1);
        Due.is("none stay none", y.agree(MORE), NONE);
    }

    private static void agreeWhat() {
        Due.by("Promise 17", "HOUSES what 0: MORE, 1: OUT, 2: MOST, 3: APART");
        LeadBalls x = Due.houses(house("a", 5, 1, "p", "q") + house("b", 12, 1, "r", "s") + house("c", 12, 2, "p", "t")
            + house("d", 99, 0, "u", "v"), 4);
        Due.is("more", x.agree(0), 47);
        Due.is("out", x.agree(1), 9);
        Due.is("most", x.agree(2), 2);
        Due.is("apart", x.agree(3), 3);
    }

    private static void agreeNone() {
        Due.by("Promise 17", "NONE without HOUSES, or for another what.");
        LeadBalls x = new LeadBalls();
        for (int what = -1; what <= 4; what++) {
            Due.is("without houses", x.agree(what), NONE);
        }
        Due.houses(x, HOUSE, 1);
        for (int what : new int[] {-1, 4, 5, Integer.MIN_VALUE, Integer.MAX_VALUE}) {
            Due.is("what " + what, x.agree(what), NONE);
        }
        Due.houses(x, "", 0);
        for (int what = 0; what <= 3; what++) {
            Due.is("without houses again", x.agree(what), NONE);
        }
    }
}
