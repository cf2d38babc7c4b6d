import java.io.IOException;
import java.lang.reflect.Field;
import java.lang.reflect.Member;
import java.lang.reflect.Method;
import java.lang.reflect.Modifier;
import java.nio.charset.StandardCharsets;
import java.nio.file.Files;
import java.nio.file.Path;
import java.util.ArrayList;
import java.util.Arrays;
import java.util.List;
import java.util.Map;
import java.util.TreeMap;
import java.util.TreeSet;
import java.util.regex.Matcher;
import java.util.regex.Pattern;

/** Those rules of ../shared/LANGUAGE.md that can be read off the source or the class; run from the project's root. */
public final class LanguageTest {
    private static final Path SOURCE = Path.of("src/main/java/PullAndPush.java");
    private static final String[] FACE = {
        "at(int,int):int", "cost(int,int):long", "count(int):int", "drag(int,int):int", "edge(int):int", "factor(int,int):int",
        "hide(int,boolean):int", "move(int,int):int", "off(int,int):long", "pixel(int):int", "quarrel():int", "settle():int",
        "side(int,int,int,int,int,int):int", "stay(int):int", "strength(int,int,int):int", "take(int):int", "told(int,int):int",
        "why(int):int", "wish(int,int,int,int):int"};
    private static final String[] CONSTANTS = {"CLASH", "FULL", "NONE", "OUTSIDE", "STATE", "UNKNOWN"};
    private static final String[] FORBIDDEN = {
        "\\bthrow\\b", "\\bthrows\\b", "\\btry\\b", "\\bcatch\\b", "\\bsynchronized\\b", "\\bassert\\b", "->", "::", "Exact\\s*\\(", "\\bpackage\\b",
        "\\bequals\\b", "\\bhashCode\\b", "\\btoString\\b", "\\bSystem\\.(?!arraycopy)", "\\bstatic\\s*\\{", "\\bdouble\\b", "\\bfloat\\b", "@"};

    private static int wrong = 0;

    public static void main(String[] args) throws IOException {
        String text = Files.readString(SOURCE, StandardCharsets.US_ASCII);
        String code = text.replaceAll("(?s)/\\*.*?\\*/", "").replaceAll("//[^\n]*", "");
        face();
        for (String word : FORBIDDEN) check(!Pattern.compile(word).matcher(code).find(), "forbidden: " + word);
        Matcher imports = Pattern.compile("import ([^;]*);").matcher(code);
        while (imports.find()) check(imports.group(1).equals("java.util.Arrays"), "import of " + imports.group(1));
        Map<String, String> bodies = bodies(code);
        for (String name : bodies.keySet()) callDepth(name, bodies, 1);
        for (Class<?> c : classes()) inside(c);
        check(classes().size() <= 12, "too many classes");
        System.out.println("LanguageTest: " + wrong + " wrong");
        if (wrong != 0) System.exit(1);
    }

    private static void check(boolean holds, String what) {
        if (!holds) {
            wrong++;
            System.out.println("LANGUAGE.md: " + what);
        }
    }

    private static List<Class<?>> classes() {
        List<Class<?>> all = new ArrayList<>();
        all.add(PullAndPush.class);
        all.addAll(Arrays.asList(PullAndPush.class.getDeclaredClasses()));
        return all;
    }

    private static void face() {
        TreeSet<String> methods = new TreeSet<>();
        TreeSet<String> names = new TreeSet<>();
        for (Method m : PullAndPush.class.getDeclaredMethods()) {
            if (Modifier.isPrivate(m.getModifiers())) continue;
            StringBuilder s = new StringBuilder(m.getName()).append('(');
            for (Class<?> p : m.getParameterTypes()) s.append(s.charAt(s.length() - 1) == '(' ? "" : ",").append(p);
            methods.add(s + "):" + m.getReturnType());
            names.add(m.getName());
        }
        check(methods.equals(new TreeSet<>(Arrays.asList(FACE))), "1: the methods are " + methods);
        for (Class<?> c : classes()) {
            for (Method m : c.getDeclaredMethods()) {
                boolean isFace = c == PullAndPush.class && !Modifier.isPrivate(m.getModifiers());
                check(isFace || !names.contains(m.getName()), "1: " + m + " bears the name of a public method");
            }
        }
        TreeSet<String> constants = new TreeSet<>();
        for (Field f : PullAndPush.class.getDeclaredFields()) {
            if (!Modifier.isPrivate(f.getModifiers())) constants.add(f.getName());
        }
        check(constants.equals(new TreeSet<>(Arrays.asList(CONSTANTS))), "1: the constants are " + constants);
        check(PullAndPush.class.getDeclaredConstructors().length == 1, "1: one constructor");
        int kind = PullAndPush.class.getModifiers();
        check(Modifier.isPublic(kind) && Modifier.isFinal(kind), "1: public and final");
    }

    private static void inside(Class<?> c) {
        check(c == PullAndPush.class || Modifier.isStatic(c.getModifiers()), "2: " + c + " is not static");
        int fields = 0;
        for (Field f : c.getDeclaredFields()) {
            if (isStatic(f)) {
                check(Modifier.isFinal(f.getModifiers()), "5: " + f + " is not final");
            } else {
                fields++;
            }
        }
        check(fields <= 20, "11: fields of " + c);
        for (Method m : c.getDeclaredMethods()) check(m.getParameterCount() <= 7, "11: parameters of " + m);
    }

    private static boolean isStatic(Member m) {
        return Modifier.isStatic(m.getModifiers());
    }

    /**
     * The code of each method by its name. A method starts at a line that ends in ') {' and is indented by 4 or 8,
     * and ends at the brace below its start.
     */
    private static Map<String, String> bodies(String code) {
        Map<String, String> bodies = new TreeMap<>();
        String[] lines = code.split("\n");
        Pattern start = Pattern.compile("^( {4}| {8})(?!for|if|while|switch|else)\\S.*?(\\w+)\\(.*\\) \\{$");
        for (int i = 0; i < lines.length; i++) {
            Matcher m = start.matcher(lines[i]);
            if (!m.find()) continue;
            int end = i + 1;
            while (end < lines.length && !lines[end].equals(m.group(1) + "}")) end++;
            check(end - i <= 60, "11: long method at " + lines[i].trim());
            String body = String.join("\n", Arrays.copyOfRange(lines, i + 1, Math.min(end, lines.length)));
            check(bodies.put(m.group(2), body) == null, "two methods bear the name " + m.group(2) + ", so calls cannot be told apart");
        }
        return bodies;
    }

    /** Follows the calls in a method; the class has no recursion, which would go on beyond the bound here. */
    private static void callDepth(String name, Map<String, String> bodies, int depth) {
        check(depth <= 8, "11: calls go too deep at " + name);
        if (depth > 8) return;
        Matcher calls = Pattern.compile("(?<!new )\\b(\\w+)\\(").matcher(bodies.get(name));
        while (calls.find()) {
            if (bodies.containsKey(calls.group(1))) callDepth(calls.group(1), bodies, depth + 1);
        }
    }
}
