import java.util.function.Consumer;

/** What the tests share: they count answers that are not due, name the document's words that these are due by, and feed texts. */
final class Due {
    /** Marks in a text the place where its FAULT is due; it is no TOKEN in any text, and is taken out before the text is fed. */
    private static final char MARK = '^';

    private static int wrong = 0;
    private static int asked = 0;
    private static String words = "";
    private static int askedBefore = 0;

    private Due() { }

    /** The answers from here on are due by these words of the document; SentencesTest looks that they stand there. */
    static void by(String part, String said) {
        lookThatSomethingWasAsked();
        words = part + ", \"" + said + "\": ";
        askedBefore = asked;
    }

    private static void lookThatSomethingWasAsked() {
        if (!words.isEmpty() && asked == askedBefore) {
            wrong++;
            System.out.println(words + "nothing is asked by these words");
        }
    }

    static void is(String call, long got, long want) {
        asked++;
        if (got != want) {
            wrong++;
            System.out.println(words + call + " answered " + got + ", due is " + want);
        }
    }

    static void is(String call, boolean got, boolean want) {
        is(call, got ? 1 : 0, want ? 1 : 0);
    }

    static void fraction(String call, long upper, long lower, long wantUpper, long wantLower) {
        is(call + ", upper part", upper, wantUpper);
        is(call + ", lower part", lower, wantLower);
    }

    /** Puts a text on an empty TAPE; texts longer than what can be fed are the test's own fault. */
    static void put(LeadBalls x, String text) {
        byte[] bytes = new byte[(text.length() + 19) / 20 * 20];
        for (int i = 0; i < text.length(); i++) {
            bytes[i] = (byte) text.charAt(i);
        }
        for (int i = 0; i < bytes.length; i += 20) {
            int fed = x.feed(four(bytes, i), four(bytes, i + 4), four(bytes, i + 8), four(bytes, i + 12), four(bytes, i + 16));
            is("feed of \"" + text + "\"", fed, i + 20);
        }
        is("end(" + text.length() + ")", x.end(text.length()), text.length());
    }

    private static int four(byte[] bytes, int at) {
        return (bytes[at] & 255) << 24 | (bytes[at + 1] & 255) << 16 | (bytes[at + 2] & 255) << 8 | bytes[at + 3] & 255;
    }

    static void shed(LeadBalls x, String text, int lines) {
        put(x, text);
        is("shed \"" + text + "\"", x.shed(), lines);
        faultIs(x, text, 0, LeadBalls.NONE);
    }

    static void houses(LeadBalls x, String text, int count) {
        put(x, text);
        is("houses \"" + text + "\"", x.houses(), count);
        faultIs(x, text, 0, LeadBalls.NONE);
    }

    static void sum(LeadBalls x, String text, int lines) {
        put(x, text);
        is("sum \"" + text + "\"", x.sum(), lines);
        faultIs(x, text, 0, LeadBalls.NONE);
    }

    /** A new object with this shed. */
    static LeadBalls shed(String text, int lines) {
        LeadBalls x = new LeadBalls();
        shed(x, text, lines);
        return x;
    }

    static LeadBalls houses(String text, int count) {
        LeadBalls x = new LeadBalls();
        houses(x, text, count);
        return x;
    }

    static LeadBalls sum(String text, int lines) {
        LeadBalls x = new LeadBalls();
        sum(x, text, lines);
        return x;
    }

    static void badShed(LeadBalls x, String marked, int fault) {
        String text = unmarked(marked);
        put(x, text);
        is("shed \"" + text + "\"", x.shed(), LeadBalls.NONE);
        faultIs(x, text, fault, marked.indexOf(MARK));
    }

    static void badHouses(LeadBalls x, String marked, int fault) {
        String text = unmarked(marked);
        put(x, text);
        is("houses \"" + text + "\"", x.houses(), LeadBalls.NONE);
        faultIs(x, text, fault, marked.indexOf(MARK));
    }

    static void badSum(LeadBalls x, String marked, int fault) {
        String text = unmarked(marked);
        put(x, text);
        is("sum \"" + text + "\"", x.sum(), LeadBalls.NONE);
        faultIs(x, text, fault, marked.indexOf(MARK));
    }

    static void badShed(String marked, int fault) {
        badShed(new LeadBalls(), marked, fault);
    }

    static void badHouses(String marked, int fault) {
        badHouses(new LeadBalls(), marked, fault);
    }

    static void badSum(String marked, int fault) {
        badSum(new LeadBalls(), marked, fault);
    }

    /** Each text that ends too soon, between two pieces of this one, with the mark at its end. */
    static void cutShort(String pieces, Consumer<String> bad) {
        for (int at = pieces.indexOf(' '); at >= 0; at = pieces.indexOf(' ', at + 1)) {
            bad.accept(pieces.substring(0, at) + MARK);
            bad.accept(pieces.substring(0, at) + " \n" + MARK);
        }
    }

    private static String unmarked(String marked) {
        int at = marked.indexOf(MARK);
        is("one mark in \"" + marked + "\"", at >= 0 && marked.indexOf(MARK, at + 1) < 0, true);
        return marked.replace(String.valueOf(MARK), "");
    }

    private static void faultIs(LeadBalls x, String text, int fault, int place) {
        is("fault(0) of \"" + text + "\"", x.fault(0), fault);
        is("fault(1) of \"" + text + "\"", x.fault(1), place);
        is("bytes left of \"" + text + "\"", x.about(6), 0);
    }

    static void finish() {
        lookThatSomethingWasAsked();
        System.out.println(wrong == 0 ? asked + " answers are as due" : wrong + " of " + asked + " answers are not as due");
        if (wrong != 0) {
            System.exit(1);
        }
    }
}
