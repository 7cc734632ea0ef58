import java.math.BigInteger;
import java.util.ArrayList;
import java.util.Arrays;
import java.util.HashMap;
import java.util.List;
import java.util.Map;
import java.util.TreeMap;

/** The document once more, by other ways than LeadBalls goes: big fractions, trees, and trying all there is. */
final class Model {
    static final int NONE = -1;
    static final long GAP = -1000000000000L;
    private static final List<String> WORDS = Arrays.asList(("ball near far rod wire damp reads zero creep warm iron cause "
        + "trial shows house says span cellar is prints").split(" "));

    record Token(String text, int place, boolean good) {
        boolean isNumber() {
            return good && !text.isEmpty() && Character.isDigit(text.charAt(0));
        }

        boolean isName() {
            return good && !text.isEmpty() && text.charAt(0) >= 'a' && text.charAt(0) <= 'z' && !WORDS.contains(text);
        }

        boolean is(String what) {
            return good && text.equals(what);
        }
    }

    static final class Fault extends RuntimeException {
        final int code;
        final int place;

        Fault(int code, int place) {
            this.code = code;
            this.place = place;
        }
    }

    record Fraction(BigInteger up, BigInteger low) {
        static Fraction of(long up, long low) {
            return of(BigInteger.valueOf(up), BigInteger.valueOf(low));
        }

        static Fraction of(BigInteger up, BigInteger low) {
            BigInteger g = up.gcd(low).multiply(BigInteger.valueOf(low.signum()));
            return new Fraction(up.divide(g), low.divide(g));
        }

        Fraction plus(Fraction o) {
            return of(up.multiply(o.low).add(o.up.multiply(low)), low.multiply(o.low));
        }

        Fraction times(Fraction o) {
            return of(up.multiply(o.up), low.multiply(o.low));
        }

        Fraction over(Fraction o) {
            return of(up.multiply(o.low), low.multiply(o.up));
        }

        Fraction minus(Fraction o) {
            return plus(o.times(of(-1, 1)));
        }

        boolean isZero() {
            return up.signum() == 0;
        }

        Fraction size() {
            return new Fraction(up.abs(), low);
        }

        long floor() {
            BigInteger[] parts = up.divideAndRemainder(low);
            return parts[0].longValueExact() - (parts[1].signum() < 0 ? 1 : 0);
        }

        long part(int part) {
            return (part == 0 ? up : low).longValueExact();
        }
    }

    record House(String name, int says, int span, String wire, String cellar) { }

    /** A unit, or two of them and a sign. */
    record Node(char sign, String leaf, Node left, Node right) { }

    record Line(String name, Node e, int prints) { }

    record Reading(int minute, int side, int number, int told, int[] untold) { }

    private String tape = "";
    private int fault = 0;
    private int faultPlace = NONE;
    private Map<String, Integer> settings = new HashMap<>();
    private List<String> causes = new ArrayList<>();
    private Map<String, List<String>> trials = new TreeMap<>();
    private List<String> trialOrder = new ArrayList<>();
    private Map<Integer, Boolean> results = new TreeMap<>();
    private List<House> houses = new ArrayList<>();
    private List<Line> lines = new ArrayList<>();
    private int units = 0;
    private final List<Reading> readings = new ArrayList<>();
    private int time = 0;

    // The parser's own state.
    private List<Token> tokens;
    private int next;
    private int parsedUnits;

    void text(String text) {
        tape = text;
    }

    private void scan(String signs) {
        tokens = new ArrayList<>();
        next = 0;
        int at = 0;
        while (at < tape.length()) {
            String left = tape.substring(at);
            String found = left.replaceFirst("(?s)^([a-z]+|[0-9]+[a-z]?|.).*$", "$1");
            if (!found.equals(" ") && !found.equals("\n")) {
                boolean good = found.matches("[a-z]{1,8}|[0-9]{1,4}") || found.length() == 1 && signs.contains(found);
                tokens.add(new Token(found, at, good));
            }
            at += found.length();
        }
        tokens.add(new Token("", tape.length(), true));
    }

    private Token peek() {
        Token t = tokens.get(next);
        if (!t.good) {
            throw new Fault(1, t.place);
        }
        return t;
    }

    private boolean atEnd() {
        return peek().text.isEmpty();
    }

    private Token need(boolean fits) {
        if (!fits) {
            throw new Fault(2, peek().place);
        }
        return tokens.get(next++);
    }

    private void word(String what) {
        need(peek().is(what));
    }

    private int number(int least, int most) {
        Token t = need(peek().isNumber());
        int value = Integer.parseInt(t.text);
        if (value < least || value > most) {
            throw new Fault(4, t.place);
        }
        return value;
    }

    private int signed(int most) {
        int place = peek().place;
        boolean below = peek().is("-");
        if (below) {
            next++;
        }
        int value = number(0, 9999);
        if (value > most) {
            throw new Fault(4, place);
        }
        return below ? -value : value;
    }

    private String name() {
        return need(peek().isName()).text;
    }

    private String freshName(Iterable<String> told) {
        int place = peek().place;
        String name = name();
        for (String other : told) {
            if (other.equals(name)) {
                throw new Fault(3, place);
            }
        }
        return name;
    }

    private int run(Runnable reading, int answer) {
        fault = 0;
        faultPlace = NONE;
        try {
            reading.run();
            return answer;
        } catch (Fault f) {
            fault = f.code;
            faultPlace = f.place;
            return NONE;
        } finally {
            tape = "";
        }
    }

    int shed() {
        Map<String, Integer> newSettings = new HashMap<>();
        List<String> newCauses = new ArrayList<>();
        Map<String, List<String>> newTrials = new TreeMap<>();
        List<String> newOrder = new ArrayList<>();
        int[] count = {0};
        int answer = run(() -> {
            scan(";-");
            while (!atEnd()) {
                shedLine(newSettings, newCauses, newTrials, newOrder);
                count[0]++;
            }
        }, 0);
        if (answer == NONE) {
            return NONE;
        }
        settings = newSettings;
        causes = newCauses;
        trials = newTrials;
        trialOrder = newOrder;
        results = new TreeMap<>();
        return count[0];
    }

    private void shedLine(Map<String, Integer> told, List<String> names, Map<String, List<String>> tests, List<String> order) {
        Token first = peek();
        String head = first.text;
        need(Arrays.asList("ball", "rod", "wire", "damp", "reads", "zero", "creep", "warm", "iron", "cause", "trial")
            .contains(head));
        if (told.containsKey(head) || head.equals("cause") && names.size() == 8 || head.equals("trial") && order.size() == 8) {
            throw new Fault(2, first.place);
        }
        switch (head) {
            case "ball" -> {
                told.put("ball", number(1, 99));
                word("near");
                told.put("near", number(1, 20));
                word("far");
                told.put("far", number(told.get("near") + 1, 99));
            }
            case "rod" -> told.put(head, number(0, 99));
            case "damp" -> told.put(head, number(0, 100));
            case "wire", "reads" -> told.put(head, number(1, 99));
            case "cause" -> names.add(freshName(names));
            case "trial" -> trial(names, tests, order);
            default -> told.put(head, signed(999));
        }
        word(";");
    }

    private void trial(List<String> names, Map<String, List<String>> tests, List<String> order) {
        String name = freshName(order);
        word("shows");
        List<String> shown = new ArrayList<>();
        do {
            int place = peek().place;
            String cause = name();
            if (!names.contains(cause)) {
                throw new Fault(5, place);
            }
            if (shown.contains(cause)) {
                throw new Fault(3, place);
            }
            shown.add(cause);
        } while (peek().isName());
        tests.put(name, shown);
        order.add(name);
    }

    int houses() {
        List<House> told = new ArrayList<>();
        int answer = run(() -> {
            scan(";-");
            while (!atEnd()) {
                need(told.size() < 12 && peek().is("house"));
                String name = freshName(told.stream().map(House::name).toList());
                word("says");
                int says = number(0, 9999);
                word("span");
                int span = number(0, 999);
                word("wire");
                String wire = name();
                word("cellar");
                String cellar = name();
                word(";");
                told.add(new House(name, says, span, wire, cellar));
            }
        }, 0);
        if (answer == NONE) {
            return NONE;
        }
        houses = told;
        return told.size();
    }

    int sum() {
        List<Line> told = new ArrayList<>();
        int answer = run(() -> {
            scan(";-()+*/");
            parsedUnits = 0;
            while (!atEnd()) {
                if (told.size() == 12) {
                    throw new Fault(2, peek().place);
                }
                List<String> names = told.stream().map(Line::name).toList();
                String name = freshName(names);
                word("is");
                Node e = expression(names, 0);
                word("prints");
                int prints = signed(9999);
                word(";");
                told.add(new Line(name, e, prints));
            }
        }, 0);
        if (answer == NONE) {
            return NONE;
        }
        lines = told;
        units = parsedUnits;
        return told.size();
    }

    private Node expression(List<String> names, int inside) {
        Node node = term(names, inside);
        while (peek().is("+") || peek().is("-")) {
            char sign = tokens.get(next++).text.charAt(0);
            node = new Node(sign, null, node, term(names, inside));
        }
        return node;
    }

    private Node term(List<String> names, int inside) {
        Node node = unit(names, inside);
        while (peek().is("*") || peek().is("/")) {
            char sign = tokens.get(next++).text.charAt(0);
            node = new Node(sign, null, node, unit(names, inside));
        }
        return node;
    }

    private Node unit(List<String> names, int inside) {
        Token t = need(peek().isName() || peek().isNumber() || peek().is("("));
        parsedUnits++;
        if (parsedUnits == 61) {
            throw new Fault(2, t.place);
        }
        if (t.is("(")) {
            if (inside == 7) {
                throw new Fault(2, t.place);
            }
            Node node = expression(names, inside + 1);
            word(")");
            return node;
        }
        if (t.isName() && !names.contains(t.text)) {
            throw new Fault(5, t.place);
        }
        return new Node(' ', t.text, null, null);
    }

    int fault(int what) {
        return what == 0 ? fault : what == 1 ? faultPlace : NONE;
    }

    private int setting(String name) {
        int other = switch (name) {
            case "ball", "far", "wire" -> 50;
            case "near" -> 5;
            case "damp" -> 90;
            case "reads" -> 1;
            default -> 0;
        };
        return settings.getOrDefault(name, other);
    }

    private Fraction pull() {
        int near = setting("near");
        int far = setting("far");
        return Fraction.of(setting("wire"), 1).times(Fraction.of(setting("ball"), 1))
            .times(Fraction.of(1000 + setting("rod"), 1000))
            .times(Fraction.of(1, near * near).minus(Fraction.of(1, far * far)));
    }

    private Fraction restOf(int side, int minute) {
        return Fraction.of(setting("zero"), 1).plus(Fraction.of((long) setting("creep") * minute, 10))
            .plus(Fraction.of((long) setting("iron") * side * side, 1))
            .plus(Fraction.of(side, 1).times(Fraction.of(setting("warm"), 1).plus(pull())));
    }

    long rest(int side, int minute, int part) {
        if (Math.abs((long) side) > 1 || minute < 0 || minute > 999 || part < 0 || part > 1) {
            return GAP;
        }
        return restOf(side, minute).part(part);
    }

    long turning(int side, int minute, int x, int i) {
        if (rest(side, minute, 0) == GAP || Math.abs((long) x) > 9999 || i < 0 || i > 19) {
            return GAP;
        }
        long rest = restOf(side, minute).times(Fraction.of(1000, 1)).floor();
        long point = x * 1000L;
        for (int n = 0; n < i; n++) {
            point = Fraction.of(100 * rest - (point - rest) * setting("damp"), 100).floor();
        }
        return Fraction.of(point, 1000L * setting("reads")).floor() * setting("reads");
    }

    long had(int a, int b, int c, int what, int part) {
        if (Math.abs((long) a) > 9999 || Math.abs((long) b) > 9999 || Math.abs((long) c) > 9999 || what < 0 || what > 1
            || part < 0 || part > 1) {
            return GAP;
        }
        long up = what == 0 ? a * c - b * b : b - c;
        long low = what == 0 ? a + c - 2 * b : b - a;
        return low == 0 ? GAP : Fraction.of(up, low).part(part);
    }

    int reading(int minute, int side, int number) {
        if (minute < 0 || minute > 199 || Math.abs((long) side) > 1 || Math.abs((long) number) > 999 || readings.size() == 40) {
            return NONE;
        }
        readings.add(new Reading(minute, side, number, time, new int[] {Integer.MIN_VALUE}));
        return readings.size() - 1;
    }

    boolean untell(int reading) {
        if (reading < 0 || reading >= readings.size() || readings.get(reading).untold[0] >= 0) {
            return false;
        }
        readings.get(reading).untold[0] = time;
        return true;
    }

    int later(int by) {
        if (by < 0 || by > 1000 || time + by > 100000) {
            return NONE;
        }
        time += by;
        return time;
    }

    private List<long[]> rows(int k) {
        List<long[]> rows = new ArrayList<>();
        for (Reading r : readings) {
            boolean gone = r.untold[0] >= 0 && r.untold[0] <= k;
            if (r.told <= k && !gone) {
                rows.add(new long[] {1, r.side, r.minute, r.side * r.side, r.number});
            }
        }
        return rows;
    }

    /** By elimination with big fractions; null if more than one set does it. */
    private Fraction[] solve(int mode, int k) {
        int n = mode + 2;
        Fraction[][] a = new Fraction[n][n + 1];
        for (int i = 0; i < n; i++) {
            for (int j = 0; j <= n; j++) {
                long s = 0;
                for (long[] row : rows(k)) {
                    s += row[i] * row[j == n ? 4 : j];
                }
                a[i][j] = Fraction.of(s, 1);
            }
        }
        for (int i = 0; i < n; i++) {
            int pivot = i;
            while (pivot < n && a[pivot][i].isZero()) {
                pivot++;
            }
            if (pivot == n) {
                return null;
            }
            Fraction[] swap = a[pivot];
            a[pivot] = a[i];
            a[i] = swap;
            for (int r = 0; r < n; r++) {
                Fraction by = a[r][i].over(a[i][i]);
                for (int j = 0; r != i && j <= n; j++) {
                    a[r][j] = a[r][j].minus(by.times(a[i][j]));
                }
            }
        }
        Fraction[] answer = new Fraction[4];
        Arrays.fill(answer, Fraction.of(0, 1));
        for (int i = 0; i < n; i++) {
            answer[i] = a[i][n].over(a[i][i]);
        }
        return answer;
    }

    long fit(int mode, int what, int part, int k) {
        if (mode < 0 || mode > 2 || what < 0 || what > 4 || part < 0 || part > 1) {
            return GAP;
        }
        Fraction[] found = solve(mode, k);
        if (found == null) {
            return GAP;
        }
        if (what < 4) {
            return found[what].part(part);
        }
        Fraction most = Fraction.of(0, 1);
        for (long[] row : rows(k)) {
            Fraction off = Fraction.of(row[4], 1);
            for (int j = 0; j < 4; j++) {
                off = off.minus(found[j].times(Fraction.of(row[j], 1)));
            }
            most = most.minus(off.size()).up.signum() < 0 ? off.size() : most;
        }
        return most.part(part);
    }

    long world(int k) {
        Fraction[] found = solve(1, k);
        if (found == null) {
            return NONE;
        }
        long g = found[1].times(Fraction.of(1000, 1)).floor();
        return g <= 0 ? NONE : pull().times(Fraction.of(100000, 1)).over(Fraction.of(g, 1)).floor();
    }

    private boolean letOne(int without, int more) {
        for (int number = -1000; number <= 11000; number++) {
            boolean all = true;
            for (int i = 0; i < houses.size() && all; i++) {
                House h = houses.get(i);
                all = (without >> i & 1) == 1 || Math.abs(number - h.says) <= h.span + more;
            }
            if (all) {
                return true;
            }
        }
        return false;
    }

    int agree(int what) {
        if (houses.isEmpty() || what < 0 || what > 3) {
            return NONE;
        }
        if (what == 0) {
            int low = 0;
            int high = 10000;
            while (low < high) {
                int middle = (low + high) / 2;
                if (letOne(0, middle)) {
                    high = middle;
                } else {
                    low = middle + 1;
                }
            }
            return low;
        }
        if (what == 3) {
            return apart();
        }
        int best = NONE;
        for (int bits = 0; bits < 1 << houses.size(); bits++) {
            if ((best == NONE || Integer.bitCount(bits) < Integer.bitCount(best)) && letOne(bits, 0)) {
                best = bits;
            }
        }
        return what == 1 ? best : houses.size() - Integer.bitCount(best);
    }

    private int apart() {
        int parts = 0;
        boolean[] seen = new boolean[houses.size()];
        for (int i = 0; i < seen.length; i++) {
            if (!seen[i]) {
                parts++;
                flood(i, seen);
            }
        }
        return parts;
    }

    private void flood(int i, boolean[] seen) {
        seen[i] = true;
        for (int j = 0; j < seen.length; j++) {
            boolean share = houses.get(i).wire.equals(houses.get(j).wire) || houses.get(i).cellar.equals(houses.get(j).cellar);
            if (share && !seen[j]) {
                flood(j, seen);
            }
        }
    }

    private static int value(Node e, Map<String, Integer> ahead) {
        if (e.leaf != null) {
            return ahead.containsKey(e.leaf) ? ahead.get(e.leaf) : Integer.parseInt(e.leaf);
        }
        int a = value(e.left, ahead);
        int b = value(e.right, ahead);
        return switch (e.sign) {
            case '+' -> a + b;
            case '-' -> a - b;
            case '*' -> a * b;
            default -> b == 0 ? 0 : a / b;
        };
    }

    private int worked(int line) {
        Map<String, Integer> ahead = new HashMap<>();
        for (int i = 0; i < line; i++) {
            ahead.put(lines.get(i).name, lines.get(i).prints);
        }
        return value(lines.get(line).e, ahead);
    }

    private int last(boolean slips, int without) {
        Map<String, Integer> ahead = new HashMap<>();
        int last = 0;
        for (int i = 0; i < lines.size(); i++) {
            last = value(lines.get(i).e, ahead);
            if (slips && i != without) {
                last += lines.get(i).prints - worked(i);
            }
            ahead.put(lines.get(i).name, last);
        }
        return last;
    }

    long line(int line, int what) {
        if (line < 0 || line >= lines.size() || what < 0 || what > 2) {
            return GAP;
        }
        if (what == 2) {
            return last(true, NONE) - last(true, line);
        }
        return what == 0 ? worked(line) : lines.get(line).prints - worked(line);
    }

    long right() {
        return lines.isEmpty() ? GAP : last(false, NONE);
    }

    boolean result(int trial, boolean shows) {
        if (trial < 0 || trial >= trialOrder.size() || results.containsKey(trial) && results.get(trial) == shows) {
            return false;
        }
        results.put(trial, shows);
        return true;
    }

    private boolean shows(int trial, String cause) {
        return trials.get(trialOrder.get(trial)).contains(cause);
    }

    private List<String> left(Map<Integer, Boolean> known) {
        List<String> left = new ArrayList<>();
        for (String cause : causes) {
            if (known.entrySet().stream().allMatch(r -> shows(r.getKey(), cause) == r.getValue())) {
                left.add(cause);
            }
        }
        return left;
    }

    int maybe() {
        int bits = 0;
        for (String cause : left(results)) {
            bits |= 1 << causes.indexOf(cause);
        }
        return bits;
    }

    int next() {
        int best = NONE;
        int least = Integer.MAX_VALUE;
        List<String> all = left(results);
        for (int t = 0; t < trialOrder.size(); t++) {
            int trial = t;
            int in = (int) all.stream().filter(c -> shows(trial, c)).count();
            int out = all.size() - in;
            if (!results.containsKey(t) && in > 0 && out > 0 && Math.max(in, out) < least) {
                best = t;
                least = Math.max(in, out);
            }
        }
        return best;
    }

    int fewest() {
        for (int n = 0; n <= 8; n++) {
            if (tells(results, n)) {
                return n;
            }
        }
        return NONE;
    }

    private boolean tells(Map<Integer, Boolean> known, int n) {
        if (left(known).size() <= 1) {
            return true;
        }
        for (int t = 0; t < trialOrder.size() && n > 0; t++) {
            if (!known.containsKey(t)) {
                Map<Integer, Boolean> yes = new TreeMap<>(known);
                Map<Integer, Boolean> no = new TreeMap<>(known);
                yes.put(t, true);
                no.put(t, false);
                boolean parts = left(yes).size() < left(known).size() && left(no).size() < left(known).size();
                if (parts && tells(yes, n - 1) && tells(no, n - 1)) {
                    return true;
                }
            }
        }
        return false;
    }

    int about(int what) {
        return switch (what) {
            case 0 -> causes.size();
            case 1 -> trialOrder.size();
            case 2 -> houses.size();
            case 3 -> lines.size();
            case 4 -> readings.size();
            case 5 -> time;
            case 6 -> tape.length();
            case 7 -> units;
            default -> NONE;
        };
    }
}
