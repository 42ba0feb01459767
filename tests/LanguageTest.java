import java.lang.reflect.Constructor;
import java.lang.reflect.Field;
import java.lang.reflect.Method;
import java.lang.reflect.Modifier;
import java.nio.file.Files;
import java.nio.file.Path;
import java.util.ArrayList;
import java.util.HashMap;
import java.util.List;
import java.util.Map;
import java.util.Set;
import java.util.TreeSet;
import java.util.regex.Matcher;
import java.util.regex.Pattern;

/** The rules of LANGUAGE.md that can be seen without running a call. Its argument is the class's file. */
public final class LanguageTest {
    private static final String[] BANNED = {
        "\\b(throw|throws|try|catch|finally|synchronized|assert|transient|volatile|native|strictfp)\\b",
        "->", "::", "\\binstanceof\\b", "\\w+Exact\\b", "\\b(hashCode|toString|equals)\\s*\\(",
        "\\b(Object|System\\.(?!arraycopy)|Thread|Runtime|Random|Class)\\b",
        "\\bprotected\\b", "\\b(var|yield|record|enum|interface|sealed|permits)\\b", "\\bpackage\\b",
        "import (?!java\\.util\\.Arrays;)", "\\bArrays\\.(?!fill\\b|copyOf\\b|copyOfRange\\b)",
        "\\bwhile\\s*\\(\\s*true", "for\\s*\\(\\s*;\\s*;", "static\\s*\\{"};
    private static final Set<String> FACE = Set.of("member", "think", "hand", "give", "names", "back", "pass", "of",
        "feed", "hall", "barred", "share", "voices", "lost", "decided", "turning", "power", "few", "best", "right",
        "surest", "breach", "rather", "settle", "heap", "mend", "late", "fewest", "table", "act", "trace", "taken",
        "count", "tape", "item", "read", "shift");

    private static int wrong;

    public static void main(String[] args) throws Exception {
        String source = Files.readString(Path.of(args[0]));
        String bare = source.replaceAll("(?s)/\\*.*?\\*/", " ").replaceAll("//[^\n]*", " ");
        for (String banned : BANNED) {
            Matcher m = Pattern.compile(banned).matcher(bare);
            if (m.find()) {
                fault("stands in the file: " + m.group());
            }
        }
        if (!source.chars().allMatch(c -> c < 127)) {
            fault("a sign above 126");
        }
        objects(bare);
        lengths(bare);
        depths(bare);
        face();
        for (Class<?> inside : HandedVoices.class.getDeclaredClasses()) {
            inside(inside);
        }
        System.out.println(wrong == 0 ? "the language's rules are kept" : wrong + " rules are broken");
        if (wrong != 0) {
            System.exit(1);
        }
    }

    private static void fault(String text) {
        wrong++;
        System.out.println(text);
    }

    /** All objects are made as the fields are: none in a call. */
    private static void objects(String bare) {
        for (String line : bare.split("\n")) {
            boolean field = line.matches("\\s*private (final )?\\S+ \\w+ = new .*;");
            boolean constructor = line.matches(" {8}\\w+ = new \\w+\\(.*\\);");
            if (line.matches(".*\\bnew\\b.*") && !field && !constructor) {
                fault("an object is made outside of fields and constructors: " + line.trim());
            }
        }
    }

    private static void lengths(String bare) {
        List<String> lines = new ArrayList<>(List.of(bare.split("\n")));
        int start = -1;
        for (int k = 0; k < lines.size(); k++) {
            String line = lines.get(k);
            if (line.matches(" {4}( {4})?(public|private).*\\(.*\\) \\{")) {
                start = k;
            }
            if (start >= 0 && line.matches(" {4}( {4})?\\}")) {
                if (k - start > 60) {
                    fault("a long method: " + lines.get(start).trim());
                }
                start = -1;
            }
        }
    }

    /** Calls go at most eight deep, the library's counted too; two that call one another count once each. */
    private static void depths(String bare) {
        Map<String, Set<String>> calls = new HashMap<>();
        String code = bare.replaceAll("\"[^\"]*\"", "0").replaceAll("'[^']*'", "0");
        Matcher head = Pattern.compile("\n {4}( {4})?(public|private)( static)? \\w+ (\\w+)\\(.*\\) \\{").matcher(code);
        while (head.find()) {
            String indent = head.group(1) == null ? "\n    }" : "\n        }";
            // methods of one name are taken for one, which can only make the way longer
            Set<String> called = calls.computeIfAbsent(head.group(4), k -> new TreeSet<>());
            String body = code.substring(head.end(), code.indexOf(indent, head.end()));
            Matcher call = Pattern.compile("\\b(\\w+)\\(").matcher(body);
            while (call.find()) {
                called.add(call.group(1));
            }
        }
        for (String name : FACE) {
            List<String> way = longest(name, calls, new ArrayList<>());
            if (way.size() > 8) {
                fault("calls go too deep: " + way);
            }
        }
    }

    private static List<String> longest(String name, Map<String, Set<String>> calls, List<String> above) {
        above.add(name);
        List<String> best = List.of();
        for (String called : calls.getOrDefault(name, Set.of())) {
            if (!above.contains(called)) {
                List<String> way = longest(called, calls, above);
                best = way.size() > best.size() ? way : best;
            }
        }
        above.remove(name);
        List<String> whole = new ArrayList<>(List.of(name));
        whole.addAll(best);
        return whole;
    }

    private static void face() {
        Class<?> c = HandedVoices.class;
        if (!Modifier.isFinal(c.getModifiers()) || !Modifier.isPublic(c.getModifiers())) {
            fault("the class is public and final");
        }
        Set<String> seen = new TreeSet<>();
        for (Method m : c.getDeclaredMethods()) {
            boolean isPublic = Modifier.isPublic(m.getModifiers());
            if (isPublic ? !FACE.contains(m.getName()) : !Modifier.isPrivate(m.getModifiers())) {
                fault("no such method in the face: " + m.getName());
            }
            if (isPublic && !seen.add(m.getName())) {
                fault("twice in the face: " + m.getName());
            }
        }
        if (!seen.equals(new TreeSet<>(FACE))) {
            fault("the face has other methods: " + seen);
        }
        Set<String> constants = new TreeSet<>();
        for (Field f : c.getDeclaredFields()) {
            if (Modifier.isPublic(f.getModifiers())) {
                constants.add(f.getName());
            } else if (!Modifier.isPrivate(f.getModifiers())) {
                fault("a field of the face: " + f.getName());
            }
        }
        if (!constants.equals(Set.of("NONE", "BAD", "STATE", "FULL", "NO"))) {
            fault("other constants: " + constants);
        }
        Constructor<?>[] made = c.getDeclaredConstructors();
        if (made.length != 1 || made[0].getParameterCount() != 0 || !Modifier.isPublic(made[0].getModifiers())) {
            fault("one public constructor");
        }
        if (c.getDeclaredClasses().length > 11) {
            fault("too many classes");
        }
        inside(c);
    }

    private static void inside(Class<?> c) {
        if (c != HandedVoices.class && (!Modifier.isStatic(c.getModifiers()) || Modifier.isPublic(c.getModifiers()))) {
            fault("a class inside is static and not public: " + c.getName());
        }
        int fields = 0;
        for (Field f : c.getDeclaredFields()) {
            boolean isStatic = Modifier.isStatic(f.getModifiers());
            fields += isStatic ? 0 : 1;
            if (isStatic && !Modifier.isFinal(f.getModifiers())) {
                fault("a static field that isn't final: " + f.getName());
            }
        }
        if (fields > 20) {
            fault("too many fields: " + c.getName());
        }
        for (Method m : c.getDeclaredMethods()) {
            if (m.getParameterCount() > 7) {
                fault("too many parameters: " + m.getName());
            }
            if (c != HandedVoices.class && FACE.contains(m.getName())) {
                fault("a public method's name within: " + m.getName());
            }
        }
    }
}
