import java.io.IOException;
import java.lang.reflect.Constructor;
import java.lang.reflect.Field;
import java.lang.reflect.Method;
import java.lang.reflect.Modifier;
import java.nio.charset.StandardCharsets;
import java.nio.file.Files;
import java.nio.file.Path;
import java.util.Arrays;
import java.util.Set;
import java.util.TreeSet;
import java.util.regex.Matcher;
import java.util.regex.Pattern;

/** The document's face and nothing else, and the rules of LANGUAGE.md that a text or a class file can show. */
final class FaceTest {
    private static final Set<String> FACE = new TreeSet<>(Arrays.asList("int feed(int,int,int,int,int)", "int end(int)", "int shed()",
        "int houses()", "int sum()", "int fault(int)", "long rest(int,int,int)", "long turning(int,int,int,int)",
        "long had(int,int,int,int,int)", "int reading(int,int,int)", "boolean untell(int)", "int later(int)",
        "long fit(int,int,int,int)", "long world(int)", "int order(int)", "int agree(int)", "long line(int,int)", "long right()",
        "boolean result(int,boolean)", "int maybe()", "int next()", "int fewest()", "int about(int)"));

    public static void main(String[] args) throws IOException {
        face();
        fields();
        classesInside();
        source();
        none();
        gap();
        Due.finish();
    }

    private static void none() {
        Due.by("Terms 6", "The constants: `NONE = -1`: There is none.");
        Due.is("NONE", LeadBalls.NONE, -1);
    }

    private static void gap() {
        Due.by("Terms 6", "`GAP = -1000000000000L`: No number is there.");
        Due.is("GAP", LeadBalls.GAP, -1000000000000L);
        // It is a long that no int is.
        Due.is("no int", LeadBalls.GAP == (int) LeadBalls.GAP, false);
    }

    private static String told(Method m) {
        StringBuilder s = new StringBuilder();
        for (Class<?> type : m.getParameterTypes()) {
            s.append(s.length() == 0 ? "" : ",").append(type.getSimpleName());
        }
        return m.getReturnType().getSimpleName() + " " + m.getName() + "(" + s + ")";
    }

    private static void face() {
        Due.is("public final", LeadBalls.class.getModifiers(), Modifier.PUBLIC | Modifier.FINAL);
        Constructor<?>[] constructors = LeadBalls.class.getDeclaredConstructors();
        Due.is("constructors", constructors.length, 1);
        Due.is("its parameters", constructors[0].getParameterCount(), 0);
        Set<String> open = new TreeSet<>();
        for (Method m : LeadBalls.class.getDeclaredMethods()) {
            if (Modifier.isPublic(m.getModifiers())) {
                open.add(told(m));
            } else {
                Due.is(m + " is private", Modifier.isPrivate(m.getModifiers()), true);
            }
        }
        Due.is("the face " + open, open.equals(FACE), true);
    }

    private static void fields() {
        Set<String> open = new TreeSet<>();
        for (Field f : LeadBalls.class.getDeclaredFields()) {
            if (!Modifier.isPrivate(f.getModifiers())) {
                open.add(f.getName());
            }
        }
        Due.is("open fields " + open, open.equals(new TreeSet<>(Arrays.asList("NONE", "GAP"))), true);
    }

    private static void classesInside() {
        Set<String> names = new TreeSet<>();
        for (String call : FACE) {
            names.add(call.replaceAll("^\\w+ (\\w+)\\(.*$", "$1"));
        }
        Class<?>[] inside = LeadBalls.class.getDeclaredClasses();
        Due.is("few classes", inside.length <= 12, true);
        for (Class<?> c : inside) {
            Due.is(c + " is static", Modifier.isStatic(c.getModifiers()), true);
            Due.is(c + " is not open", Modifier.isPublic(c.getModifiers()) || Modifier.isProtected(c.getModifiers()), false);
            for (Method m : c.getDeclaredMethods()) {
                Due.is(m + " has no name of the face", names.contains(m.getName()), false);
                Due.is(m + " takes few", m.getParameterCount() <= 7, true);
            }
            int own = 0;
            for (Field f : c.getDeclaredFields()) {
                Due.is(f + " is no static state", !Modifier.isStatic(f.getModifiers()) || Modifier.isFinal(f.getModifiers()), true);
                own += Modifier.isStatic(f.getModifiers()) ? 0 : 1;
            }
            Due.is(c + " has few fields", own <= 20, true);
        }
    }

    private static void source() throws IOException {
        String text = Files.readString(Path.of("src/main/java/LeadBalls.java"), StandardCharsets.ISO_8859_1);
        for (int i = 0; i < text.length(); i++) {
            if (text.charAt(i) > 126) {
                Due.is("a sign at " + i, text.charAt(i), ' ');
            }
        }
        String code = text.replaceAll("(?s)/\\*.*?\\*/", " ").replaceAll("//[^\n]*", " ");
        String bare = code.replaceAll("\"[^\"\n]*\"", "\"\"");
        Matcher word = Pattern.compile("\\b(throw|throws|try|catch|synchronized|assert|import|package|double|float|Object|Thread"
            + "|native|transient|volatile|strictfp|hashCode|toString|var)\\b|->|::|\\bstatic\\s*\\{|\" *\\+|\\+ *\"").matcher(bare);
        while (word.find()) {
            Due.is("'" + word.group() + "' in the source", 1, 0);
        }
        Matcher used = Pattern.compile("\\b(Math|Integer|Long|System|Arrays|String)\\.(\\w+)").matcher(bare);
        Set<String> allowed = Set.of("Math.floorDiv", "Math.abs", "Math.max", "Math.min", "Integer.bitCount", "System.arraycopy");
        while (used.find()) {
            Due.is(used.group() + " is allowed", allowed.contains(used.group()), true);
        }
        methodsAreShort(bare);
    }

    private static void methodsAreShort(String code) {
        String[] lines = code.split("\n");
        int begun = -1;
        String end = "";
        for (int i = 0; i < lines.length; i++) {
            if (begun < 0 && lines[i].matches(" {4,8}\\S.*\\) \\{") && !lines[i].matches(".*\\b(if|for|while|switch)\\b.*")) {
                begun = i;
                end = lines[i].replaceAll("\\S.*$", "}");
            } else if (begun >= 0 && lines[i].equals(end)) {
                Due.is("length of" + lines[begun] + " is short", i - begun + 1 <= 60, true);
                begun = -1;
            }
        }
    }
}
