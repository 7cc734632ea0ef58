/** What the tests share: they count answers that are not due, and feed texts. */
final class Due {
    private static int wrong = 0;
    private static int asked = 0;

    private Due() { }

    static void is(String call, long got, long want) {
        asked++;
        if (got != want) {
            wrong++;
            System.out.println(call + " answered " + got + ", due is " + want);
        }
    }

    static void is(String call, boolean got, boolean want) {
        is(call, got ? 1 : 0, want ? 1 : 0);
    }

    /** Puts a text on an empty TAPE; texts longer than what can be fed are the test's own fault. */
    static void put(LeadBalls x, String text) {
        byte[] bytes = new byte[(text.length() + 19) / 20 * 20];
        for (int i = 0; i < text.length(); i++) {
            bytes[i] = (byte) text.charAt(i);
        }
        for (int i = 0; i < bytes.length; i += 20) {
            int fed = x.feed(four(bytes, i), four(bytes, i + 4), four(bytes, i + 8), four(bytes, i + 12), four(bytes, i + 16));
            is("feed of \"" + text + "\"", fed, i + 20);
        }
        is("end(" + text.length() + ")", x.end(text.length()), text.length());
    }

    private static int four(byte[] bytes, int at) {
        return (bytes[at] & 255) << 24 | (bytes[at + 1] & 255) << 16 | (bytes[at + 2] & 255) << 8 | bytes[at + 3] & 255;
    }

    static void shed(LeadBalls x, String text, int lines) {
        put(x, text);
        is("shed \"" + text + "\"", x.shed(), lines);
        sound(x, text);
    }

    static void houses(LeadBalls x, String text, int count) {
        put(x, text);
        is("houses \"" + text + "\"", x.houses(), count);
        sound(x, text);
    }

    static void sum(LeadBalls x, String text, int lines) {
        put(x, text);
        is("sum \"" + text + "\"", x.sum(), lines);
        sound(x, text);
    }

    private static void sound(LeadBalls x, String text) {
        is("fault(0) of \"" + text + "\"", x.fault(0), 0);
        is("fault(1) of \"" + text + "\"", x.fault(1), LeadBalls.NONE);
        is("bytes left of \"" + text + "\"", x.about(6), 0);
    }

    static void badShed(LeadBalls x, String text, int fault, int place) {
        put(x, text);
        is("shed \"" + text + "\"", x.shed(), LeadBalls.NONE);
        faulty(x, text, fault, place);
    }

    static void badHouses(LeadBalls x, String text, int fault, int place) {
        put(x, text);
        is("houses \"" + text + "\"", x.houses(), LeadBalls.NONE);
        faulty(x, text, fault, place);
    }

    static void badSum(LeadBalls x, String text, int fault, int place) {
        put(x, text);
        is("sum \"" + text + "\"", x.sum(), LeadBalls.NONE);
        faulty(x, text, fault, place);
    }

    private static void faulty(LeadBalls x, String text, int fault, int place) {
        is("fault(0) of \"" + text + "\"", x.fault(0), fault);
        is("fault(1) of \"" + text + "\"", x.fault(1), place);
        is("bytes left of \"" + text + "\"", x.about(6), 0);
    }

    static void fraction(String call, long upper, long lower, long wantUpper, long wantLower) {
        is(call + ", upper part", upper, wantUpper);
        is(call + ", lower part", lower, wantLower);
    }

    static void finish() {
        System.out.println(wrong == 0 ? asked + " answers are as due" : wrong + " of " + asked + " answers are not as due");
        if (wrong != 0) {
            System.exit(1);
        }
    }
}
