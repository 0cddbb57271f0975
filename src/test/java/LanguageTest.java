import java.io.IOException;
import java.lang.reflect.Constructor;
import java.lang.reflect.Field;
import java.lang.reflect.Method;
import java.lang.reflect.Modifier;
import java.nio.file.Files;
import java.nio.file.Path;
import java.util.ArrayList;
import java.util.HashMap;
import java.util.HashSet;
import java.util.List;
import java.util.Map;
import java.util.Set;
import java.util.TreeSet;
import java.util.regex.Matcher;
import java.util.regex.Pattern;

/** Looks for the rules of ../shared/LANGUAGE.md that a machine can look for; run from the project's root. */
public final class LanguageTest {
    private static final String[] FACE = {
        "int agents()", "int addState()", "int states()", "int setActions(int,int,int)", "int actions(int,int)",
        "int label(int,int,boolean)", "int labels(int)", "int setMove(int,int,int)", "int setAll(int,int,int,int)",
        "int next(int,int)", "int moves(int)", "int force(int,int,int)", "int reply(int,int,int,int)",
        "int forced(int,int)", "int type(int)", "int clear()", "int read()", "int forget()", "int formulas()",
        "int parts(int)", "int where(int,int)", "int holds(int,int)", "int counterexample(int,int)",
        "int rank(int,int)", "int strategy(int,int)", "int plan(int,int,int)", "int adopt(int)",
        "int planned(int,int)", "int enforced(int)", "int play(int,int,int,int)", "int smallest(int,int)",
        "int classes()", "int classOf(int)", "int undo()", "long fingerprint()"};

    private static int wrong = 0;

    private static void check(boolean good, String what) {
        if (!good) {
            wrong++;
            System.out.println(what);
        }
    }

    public static void main(String[] args) throws IOException {
        Class<?> c = CoalitionChecker.class;
        face(c);
        classes(c);
        source(Files.readString(Path.of("src/main/java/CoalitionChecker.java")));
        System.out.println("LanguageTest: " + wrong + " rules broken");
        if (wrong != 0) {
            System.exit(1);
        }
    }

    private static String told(Method m) {
        List<String> types = new ArrayList<>();
        for (Class<?> type : m.getParameterTypes()) {
            types.add(type.getSimpleName());
        }
        return m.getReturnType().getSimpleName() + " " + m.getName() + "(" + String.join(",", types) + ")";
    }

    private static void face(Class<?> c) {
        check(Modifier.isPublic(c.getModifiers()) && Modifier.isFinal(c.getModifiers()), "rule 1: public final");
        Set<String> found = new TreeSet<>();
        for (Method m : c.getDeclaredMethods()) {
            if (!Modifier.isPrivate(m.getModifiers())) {
                check(Modifier.isPublic(m.getModifiers()), "rule 1: " + m);
                found.add(told(m));
            }
        }
        check(found.equals(new TreeSet<>(List.of(FACE))), "rule 1: the face is " + found);
        Set<String> constants = new TreeSet<>();
        for (Field f : c.getDeclaredFields()) {
            if (!Modifier.isPrivate(f.getModifiers())) {
                check(Modifier.isPublic(f.getModifiers()) && Modifier.isStatic(f.getModifiers()), "rule 1: " + f);
                constants.add(f.getName());
            }
        }
        check(constants.equals(new TreeSet<>(List.of("BAD", "FULL", "FORM", "NONE"))), "rule 1: " + constants);
        Constructor<?>[] made = c.getDeclaredConstructors();
        check(made.length == 1 && Modifier.isPublic(made[0].getModifiers())
                && made[0].getParameterCount() == 1 && made[0].getParameterTypes()[0] == int.class,
                "rule 1: the constructor");
    }

    private static void classes(Class<?> c) {
        List<Class<?>> all = new ArrayList<>(List.of(c.getDeclaredClasses()));
        check(all.size() + 1 <= 12, "rule 11: " + all.size() + " classes inside");
        Set<String> publics = new HashSet<>();
        for (String method : FACE) {
            publics.add(method.substring(method.indexOf(' ') + 1, method.indexOf('(')));
        }
        for (Class<?> inside : all) {
            int m = inside.getModifiers();
            check(Modifier.isStatic(m) && !Modifier.isPublic(m) && !Modifier.isProtected(m), "rule 1: " + inside);
            check(inside.getDeclaredClasses().length == 0, "rule 2: " + inside);
            for (Method method : inside.getDeclaredMethods()) {
                check(!publics.contains(method.getName()), "rule 1: " + method);
            }
        }
        all.add(c);
        for (Class<?> one : all) {
            int fields = 0;
            for (Field f : one.getDeclaredFields()) {
                int m = f.getModifiers();
                check(!Modifier.isStatic(m) || Modifier.isFinal(m), "rule 5: " + f);
                fields += Modifier.isStatic(m) ? 0 : 1;
            }
            check(fields <= 20, "rule 11: " + fields + " fields in " + one);
            for (Method method : one.getDeclaredMethods()) {
                check(method.getParameterCount() <= 7, "rule 11: " + method);
            }
        }
    }

    private static void source(String text) {
        for (int i = 0; i < text.length(); i++) {
            check(text.charAt(i) < 128, "a sign above 127 at " + i);
        }
        String code = text.replaceAll("(?s)/\\*.*?\\*/", "").replaceAll("//[^\n]*", "");
        String[] banned = {"throw", "throws", "try", "catch", "finally", "synchronized", "assert", "import", "package",
            "instanceof", "Object", "equals", "hashCode", "toString", "Exact", "enum", "record", "volatile", "native"};
        for (String word : banned) {
            check(!Pattern.compile("\\b" + word + "\\b").matcher(code).find(), "the word " + word);
        }
        check(!code.contains("->") && !code.contains("::") && !code.contains("@"), "rule 2: a lambda or the like");
        Matcher library = Pattern.compile("\\b(Math|Integer|Long|System|Arrays|String)\\.(\\w+)").matcher(code);
        Set<String> allowed = Set.of("Math.max", "Math.min", "Integer.bitCount", "Integer.numberOfTrailingZeros",
                "System.arraycopy");
        while (library.find()) {
            check(allowed.contains(library.group()), "rule 4: " + library.group());
        }
        lengths(code);
        depths(code);
        rows(code);
    }

    /** Methods stand at one or two levels of four blanks; their bodies end with the brace at that level. */
    private static void lengths(String code) {
        Matcher method = Pattern.compile("(?m)^(    |        )(?! )[^\n;=]*\\)\\s*\\{$").matcher(code);
        int methods = 0;
        while (method.find()) {
            methods++;
            int end = code.indexOf("\n" + method.group(1) + "}", method.end());
            long lines = code.substring(method.start(), end).chars().filter(c -> c == '\n').count();
            check(lines <= 60, "rule 11: " + lines + " lines: " + method.group());
        }
        check(methods > 100, "only " + methods + " methods seen");
    }

    /** Methods of one name are taken as one, so the chains that are found are no shorter than the true ones. */
    private static void depths(String code) {
        Matcher method = Pattern.compile("(?m)^(    |        )(?! )(?:[\\w\\[\\]]+ )*(\\w+)\\([^;=)]*\\) \\{$").matcher(code);
        Map<String, String> bodies = new HashMap<>();
        while (method.find()) {
            int end = code.indexOf("\n" + method.group(1) + "}", method.end());
            bodies.merge(method.group(2), code.substring(method.end(), end), String::concat);
        }
        Map<String, Set<String>> calls = new HashMap<>();
        for (String name : bodies.keySet()) {
            Set<String> called = new TreeSet<>();
            Matcher call = Pattern.compile("\\b(\\w+)\\(").matcher(bodies.get(name));
            while (call.find()) {
                if (bodies.containsKey(call.group(1))) {
                    called.add(call.group(1));
                }
            }
            calls.put(name, called);
        }
        for (String name : calls.keySet()) {
            chain(calls, name, name, 1);
        }
    }

    private static void chain(Map<String, Set<String>> calls, String name, String told, int depth) {
        check(depth <= 8, "rule 11: " + depth + " calls deep: " + told);
        for (String next : depth <= 8 ? calls.get(name) : Set.<String>of()) {
            chain(calls, next, told + " > " + next, depth + 1);
        }
    }

    /** Rule 7: an array is reached only where the index was looked at on the lines before. */
    private static void rows(String code) {
        String[] lines = code.split("\n");
        Pattern access = Pattern.compile("\\b([a-zA-Z]\\w*)\\[(\\w+)\\]");
        for (int i = 0; i < lines.length; i++) {
            Matcher m = access.matcher(lines[i]);
            while (m.find()) {
                if (m.group(1).equals("int") || m.group(1).equals("Structure") || m.group(1).equals("Formula")) {
                    continue;
                }
                StringBuilder near = new StringBuilder();
                for (int k = Math.max(0, i - 4); k <= i; k++) {
                    near.append(lines[k]);
                }
                check(near.indexOf(m.group(2) + " < " + m.group(1) + ".length") >= 0
                        || near.indexOf(m.group(2) + " >= " + m.group(1) + ".length") >= 0,
                        "rule 7: " + lines[i].trim());
            }
        }
        Matcher divided = Pattern.compile("[/%]=? *(\\w+)").matcher(code);
        while (divided.find()) {
            check(divided.group(1).startsWith("MOST_") || code.contains(divided.group(1) + " > 0 ?"),
                    "rule 7: a divisor " + divided.group(1));
        }
    }
}
