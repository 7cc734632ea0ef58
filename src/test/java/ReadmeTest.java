import java.io.IOException;
import java.lang.reflect.Method;
import java.lang.reflect.Modifier;
import java.nio.charset.StandardCharsets;
import java.nio.file.Files;
import java.nio.file.Path;
import java.util.Set;
import java.util.TreeSet;
import java.util.regex.Matcher;
import java.util.regex.Pattern;

/** README.md's walk through all calls: each answer is the one told behind it, and no call of the face is left out. */
final class ReadmeTest {
    private static final Path README = Path.of("README.md");
    private static final Pattern CALL = Pattern.compile("^x\\.(\\w+)\\(([^)]*)\\);\\s*// (-?\\d+|true|false|NONE|GAP)\\b.*$");
    private static final Pattern PUT = Pattern.compile("^put\\(x, \"([^\"]*)\"\\);$");
    private static final String BEGIN = "```java\nLeadBalls x = new LeadBalls();\n";

    public static void main(String[] args) throws IOException, ReflectiveOperationException {
        String readme = Files.readString(README, StandardCharsets.UTF_8);
        Due.is("one walk in " + README, readme.split(Pattern.quote(BEGIN), -1).length, 2);
        Set<String> left = face();
        walk(readme.substring(readme.indexOf(BEGIN) + BEGIN.length()).split("```")[0], left);
        Due.is("calls that are left out " + left, left.isEmpty(), true);
        texts();
        Due.finish();
    }

    private static Set<String> face() {
        Set<String> names = new TreeSet<>();
        for (Method m : LeadBalls.class.getDeclaredMethods()) {
            if (Modifier.isPublic(m.getModifiers())) {
                names.add(m.getName());
            }
        }
        return names;
    }

    private static void walk(String code, Set<String> left) throws ReflectiveOperationException {
        LeadBalls x = new LeadBalls();
        for (String line : code.split("\n")) {
            Matcher call = CALL.matcher(line);
            Matcher text = PUT.matcher(line);
            if (call.matches()) {
                Due.is(line, asked(x, call.group(1), call.group(2)), told(call.group(3)));
                left.remove(call.group(1));
            } else if (text.matches()) {
                put(x, text.group(1));
            } else {
                Due.is("'" + line + "' is a call with its answer", line.isEmpty() || line.startsWith("//"), true);
            }
        }
    }

    private static long asked(LeadBalls x, String name, String arguments) throws ReflectiveOperationException {
        String[] given = arguments.isEmpty() ? new String[0] : arguments.split(", *");
        for (Method m : LeadBalls.class.getDeclaredMethods()) {
            if (m.getName().equals(name) && m.getParameterCount() == given.length) {
                Object[] values = new Object[given.length];
                for (int i = 0; i < given.length; i++) {
                    values[i] = m.getParameterTypes()[i] == boolean.class ? (Object) Boolean.valueOf(given[i]) : Integer.decode(given[i]);
                }
                Object answer = m.invoke(x, values);
                return answer instanceof Boolean b ? (b ? 1 : 0) : ((Number) answer).longValue();
            }
        }
        Due.is("a call " + name + "(" + arguments + ")", false, true);
        return 0;
    }

    private static long told(String answer) {
        return switch (answer) {
            case "NONE" -> LeadBalls.NONE;
            case "GAP" -> LeadBalls.GAP;
            case "true" -> 1;
            case "false" -> 0;
            default -> Long.parseLong(answer);
        };
    }

    /** As README.md has it, so that it is known to do what is told of it there. */
    static void put(LeadBalls x, String text) {
        int[] fives = new int[(text.length() + 19) / 20 * 5];
        for (int i = 0; i < text.length(); i++) {
            fives[i / 4] |= (text.charAt(i) & 255) << 24 - i % 4 * 8;
        }
        for (int i = 0; i < fives.length; i += 5) {
            x.feed(fives[i], fives[i + 1], fives[i + 2], fives[i + 3], fives[i + 4]);
        }
        x.end(text.length());
    }

    private static void texts() throws IOException {
        String shown = Files.readString(README, StandardCharsets.UTF_8).split("```java\n")[1].split("```")[0].indent(4);
        String own = Files.readString(Path.of("src/test/java/ReadmeTest.java"), StandardCharsets.UTF_8);
        Due.is("put of " + README + " stands here", own.contains(shown), true);
        String longest = "zero 7;" + " ".repeat(792) + "$";
        for (int length = 0; length <= longest.length(); length++) {
            LeadBalls x = new LeadBalls();
            put(x, longest.substring(0, length));
            Due.is("bytes of " + length, x.about(6), length);
            boolean good = length == 0 || length >= 7 && length < longest.length();
            Due.is("a text of " + length, x.shed() != LeadBalls.NONE, good);
        }
    }
}
