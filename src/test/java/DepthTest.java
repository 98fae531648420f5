import java.nio.file.Files;
import java.nio.file.Path;
import java.util.ArrayList;
import java.util.HashMap;
import java.util.List;
import java.util.Map;
import java.util.Set;
import java.util.TreeMap;
import java.util.TreeSet;
import java.util.regex.Matcher;
import java.util.regex.Pattern;

/**
 * LANGUAGE.md's rules 8 and 11, read from the source: which method calls which; none calls itself, and calls go at
 * most eight deep, those of the library counted too.
 */
public final class DepthTest {
    private static final String OUTER = "DamOfTurf";
    private static final Pattern NESTED = Pattern.compile(" {4}private static final class (\\w+) \\{");
    private static final Pattern METHOD = Pattern.compile(" {4}( {4})?(?!for |if |switch |while |else |do )"
            + "(?:\\w+(?:\\[\\])* )*(\\w+)\\((.*)\\) \\{");
    private static final Pattern NAMED = Pattern.compile("\\b([A-Z]\\w*)(?:\\[\\])? (\\w+)\\b");
    private static final Pattern CALL = Pattern.compile("(new )?(?:(\\w+)(?:\\[[^\\]]*\\])?\\.|(\\))\\.)?\\b(\\w+)\\(");
    private static final Set<String> NO_CALLS = Set.of("if", "for", "while", "switch", "return");

    /** By class and method: the lines of the method, its head the first. */
    private static final Map<String, List<String>> METHODS = new TreeMap<>();
    /** By class and name: of which class a field is. */
    private static final Map<String, String> FIELDS = new HashMap<>();
    private static final Map<String, Set<String>> CALLS = new TreeMap<>();
    private static final Map<String, Integer> DEPTHS = new HashMap<>();
    private static final Set<String> CLASSES = new TreeSet<>(Set.of(OUTER));

    public static void main(String[] args) throws Exception {
        read(Files.readString(Path.of("src/main/java/DamOfTurf.java")));
        Check.same("methods are found", METHODS.size() > 100 ? 1 : 0, 1);
        for (String method : METHODS.keySet()) {
            CALLS.put(method, callsOf(method));
        }
        int deepest = 0;
        for (String method : METHODS.keySet()) {
            int depth = depth(method, new ArrayList<>());
            Check.same(method + " goes at most eight deep: " + depth, depth <= 8 ? 1 : 0, 1);
            deepest = Math.max(deepest, depth);
        }
        Check.same("calls are found", deepest >= 6 ? 1 : 0, 1);
        Check.same("BEST lets minutes go by", CALLS.get("DamOfTurf.waterWithShares").contains("Dam.letPass") ? 1 : 0, 1);
        Check.same("each minute asks the brook", CALLS.get("Dam.oneMinute").contains("Brook.comesIn") ? 1 : 0, 1);
        everyPrivateMethodIsCalled();
        Check.end();
    }

    private static void read(String source) {
        String[] lines = source.replaceAll("(?s)/\\*.*?\\*/", "").replaceAll("//[^\n]*", "")
                .replaceAll("\"[^\"\n]*\"", "T").replaceAll("'[^'\n]*'", "L").split("\n");
        String inside = OUTER;
        List<String> body = null;
        for (String line : lines) {
            Matcher nested = NESTED.matcher(line);
            Matcher method = METHOD.matcher(line);
            if (nested.matches()) {
                inside = nested.group(1);
                CLASSES.add(inside);
                body = null;
            } else if (method.matches()) {
                body = new ArrayList<>();
                Check.same("one method of a name: " + line, METHODS.put(inside + "." + method.group(2), body) == null
                        ? 1 : 0, 1);
            } else if (line.strip().startsWith("private ")) {
                body = null;
                Matcher field = NAMED.matcher(line);
                if (field.find()) {
                    FIELDS.put(inside + "." + field.group(2), field.group(1));
                }
            }
            if (body != null) {
                body.add(line);
            }
        }
    }

    private static Set<String> callsOf(String method) {
        Set<String> all = new TreeSet<>();
        List<String> lines = METHODS.get(method);
        String inside = method.substring(0, method.indexOf('.'));
        Map<String, String> locals = new HashMap<>();
        for (int k = 0; k < lines.size(); k++) {
            Matcher named = NAMED.matcher(lines.get(k));
            while (named.find()) {
                locals.put(named.group(2), named.group(1));
            }
            if (k == 0) {
                continue;
            }
            Matcher call = CALL.matcher(lines.get(k));
            while (call.find()) {
                if (!NO_CALLS.contains(call.group(4))) {
                    all.add(target(call, inside, locals));
                }
            }
        }
        return all;
    }

    /** The class and method that is called, or the name alone of what the library has. */
    private static String target(Matcher call, String inside, Map<String, String> locals) {
        String name = call.group(4);
        if (call.group(1) != null) {
            return METHODS.containsKey(name + "." + name) ? name + "." + name : name;
        }
        if (call.group(2) != null) {
            String of = locals.getOrDefault(call.group(2), FIELDS.getOrDefault(inside + "." + call.group(2), ""));
            String found = of + "." + name;
            Check.same(inside + " knows what " + call.group() + " is", METHODS.containsKey(found)
                    || Set.of("Math", "String").contains(call.group(2)) || of.equals("String")
                    || call.group(2).equals("FIRST_TEXT") ? 1 : 0, 1);
            return found;
        }
        if (call.group(3) != null) {
            List<String> having = new ArrayList<>();
            for (String each : CLASSES) {
                if (METHODS.containsKey(each + "." + name)) {
                    having.add(each + "." + name);
                }
            }
            Check.same("one class alone has " + name, having.size(), 1);
            return having.isEmpty() ? name : having.get(0);
        }
        String own = inside + "." + name;
        String found = METHODS.containsKey(own) ? own : OUTER + "." + name;
        Check.same(inside + " has " + name, METHODS.containsKey(found) ? 1 : 0, 1);
        return found;
    }

    /** How many calls stand open at once at most, this one and those of the library counted. */
    private static int depth(String method, List<String> open) {
        if (open.contains(method)) {
            Check.same(open + " comes to itself", 1, 0);
            return 1000;
        }
        if (!CALLS.containsKey(method)) {
            return 1;
        }
        Integer known = DEPTHS.get(method);
        if (known != null) {
            return known;
        }
        open.add(method);
        int deepest = 0;
        for (String called : CALLS.get(method)) {
            deepest = Math.max(deepest, depth(called, open));
        }
        open.remove(method);
        DEPTHS.put(method, deepest + 1);
        return deepest + 1;
    }

    private static void everyPrivateMethodIsCalled() throws Exception {
        Set<String> called = new TreeSet<>();
        CALLS.values().forEach(called::addAll);
        for (String method : METHODS.keySet()) {
            boolean asked = called.contains(method);
            if (!asked && method.startsWith(OUTER + ".") && !method.equals(OUTER + "." + OUTER)) {
                String name = method.substring(OUTER.length() + 1);
                for (var m : DamOfTurf.class.getMethods()) {
                    asked |= m.getName().equals(name);
                }
            }
            Check.same(method + " is called", asked || method.equals(OUTER + "." + OUTER) ? 1 : 0, 1);
        }
    }
}
