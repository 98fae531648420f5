import java.io.IOException;
import java.lang.reflect.Array;
import java.lang.reflect.Constructor;
import java.lang.reflect.Field;
import java.lang.reflect.Method;
import java.lang.reflect.Modifier;
import java.nio.file.Files;
import java.nio.file.Path;
import java.util.Arrays;
import java.util.IdentityHashMap;
import java.util.List;
import java.util.Map;
import java.util.Set;
import java.util.TreeSet;

/** What LANGUAGE.md binds, as far as it can be seen from outside and from the letters of the source. */
public final class RulesTest {
    private static final int[] NUMBERS = {Integer.MIN_VALUE, Integer.MIN_VALUE + 1, -1000, -2, -1, 0, 1, 2, 5, 8, 9, 10,
            31, 40, 41, 60, 61, 99, 126, 127, 200, 201, 999, 1000, 9999, 10000, Integer.MAX_VALUE - 1, Integer.MAX_VALUE};

    public static void main(String[] args) throws Exception {
        face();
        classesInside();
        String source = Files.readString(Path.of("src/main/java/DamOfTurf.java"));
        words(source);
        methodsAreShort(source);
        nothingIsMadeByCalls(source);
        room();
        noCallThrows();
        sameCallsSameAnswers();
        Check.end();
    }

    private static void face() {
        Class<?> c = DamOfTurf.class;
        Check.same("DamOfTurf is public and final", Modifier.toString(c.getModifiers()), "public final");
        Set<String> methods = new TreeSet<>();
        for (Method m : c.getDeclaredMethods()) {
            if (Modifier.isPublic(m.getModifiers())) {
                methods.add(m.getReturnType() + " " + m.getName() + m.getParameterCount());
            } else {
                Check.same(m + " is private", Modifier.isPrivate(m.getModifiers()) ? 1 : 0, 1);
            }
            for (Class<?> p : m.getParameterTypes()) {
                Check.same(m + " takes int or boolean", p == int.class || p == boolean.class ? 1 : 0, 1);
            }
        }
        Set<String> due = new TreeSet<>();
        for (String m : ("write1 wipe0 fault0 laid0 cell2 lake1 edge1 comes1 put3 dig2 pass1 undo0 behind2 worn2 over1 gone1"
                + " best4 gap2 together1 slow3 fill1 trodden2 blame0 seen2 forget0 flows0 odds4 night2 keep0 back0 count1")
                .split(" ")) {
            due.add("int " + m);
        }
        Check.same("the public methods", methods.toString(), due.toString());
        Constructor<?>[] made = c.getDeclaredConstructors();
        Check.same("constructors", made.length, 1);
        Check.same("the constructor", made[0].toString(), "public DamOfTurf()");
        Set<String> constants = new TreeSet<>();
        for (Field f : c.getDeclaredFields()) {
            if (!Modifier.isPrivate(f.getModifiers())) {
                constants.add(Modifier.toString(f.getModifiers()) + " " + f.getType() + " " + f.getName());
            }
        }
        String kind = "public static final int ";
        Check.same("the constants", constants.toString(),
                new TreeSet<>(List.of(kind + "BAD", kind + "NO", kind + "FULL", kind + "NONE")).toString());
    }

    private static void classesInside() {
        Set<String> open = new TreeSet<>();
        for (Method m : DamOfTurf.class.getDeclaredMethods()) {
            if (Modifier.isPublic(m.getModifiers())) {
                open.add(m.getName());
            }
        }
        for (Method m : Object.class.getDeclaredMethods()) {
            open.add(m.getName());
        }
        Class<?>[] inside = DamOfTurf.class.getDeclaredClasses();
        Check.same("some twelve classes at most", inside.length <= 11 ? 1 : 0, 1);
        for (Class<?> c : inside) {
            Check.same(c + " is static and private", Modifier.toString(c.getModifiers()), "private static final");
            Check.same(c + " has none inside", c.getDeclaredClasses().length, 0);
            for (Method m : c.getDeclaredMethods()) {
                Check.same(m + " bears the name of a public one", open.contains(m.getName()) ? 1 : 0, 0);
                Check.same(m + " takes seven at most", m.getParameterCount() <= 7 ? 1 : 0, 1);
            }
            fieldsOf(c);
        }
        fieldsOf(DamOfTurf.class);
    }

    private static void fieldsOf(Class<?> c) {
        int fields = 0;
        for (Field f : c.getDeclaredFields()) {
            int kind = f.getModifiers();
            if (Modifier.isStatic(kind)) {
                Check.same(f + " is a constant", Modifier.isFinal(kind) ? 1 : 0, 1);
                Check.same(f + " is int or String", f.getType() == int.class || f.getType() == String.class ? 1 : 0, 1);
            } else {
                fields++;
                Check.same(f + " is private", Modifier.isPrivate(kind) ? 1 : 0, 1);
            }
        }
        Check.same(c + " has some twenty fields at most: " + fields, fields <= 20 ? 1 : 0, 1);
    }

    /** The source without its comments, texts and signs in quotes. */
    private static String bare(String source) {
        return source.replaceAll("(?s)/\\*.*?\\*/", "").replaceAll("//[^\n]*", "").replaceAll("\"[^\"\n]*\"", "T")
                .replaceAll("'[^'\n]*'", "L");
    }

    private static void words(String source) {
        Set<String> words = new TreeSet<>(Arrays.asList(bare(source).split("[^A-Za-z0-9_]+")));
        for (String word : ("throw throws try catch finally synchronized assert import package native volatile transient"
                + " instanceof while do goto Object System Random Thread Runtime Class Exception Error var yield record"
                + " hashCode equals toString getClass notify clone finalize double float").split(" ")) {
            Check.same("the word " + word, words.contains(word) ? 1 : 0, 0);
        }
        for (String sign : new String[] {"->", "::", "@", "+ T", "T +", "<>"}) {
            Check.same("the sign " + sign, bare(source).contains(sign) ? 1 : 0, 0);
        }
        for (int k = 0; k < source.length(); k++) {
            if (source.charAt(k) > 126 || source.charAt(k) < 32 && source.charAt(k) != '\n') {
                Check.same("the letter at " + k, source.charAt(k), ' ');
            }
        }
    }

    private static void methodsAreShort(String source) {
        String[] lines = source.split("\n");
        int methods = 0;
        for (int k = 0; k < lines.length; k++) {
            if (lines[k].matches(" {4}( {4})?(?!for |if |switch |while )\\w[^;]*\\(.*\\) \\{")) {
                String indent = lines[k].substring(0, lines[k].length() - lines[k].stripLeading().length());
                int length = Arrays.asList(lines).subList(k, lines.length).indexOf(indent + "}");
                Check.same("the method at line " + (k + 1) + " is short: " + length, length <= 40 ? 1 : 0, 1);
                methods++;
            }
        }
        Check.same("methods are found", methods > 100 ? 1 : 0, 1);
    }

    /** Rows and objects are made in constructors alone, and used again. */
    private static void nothingIsMadeByCalls(String source) {
        int from = source.indexOf("public DamOfTurf() {");
        int to = source.indexOf("    public int write(");
        String rest = bare(source.substring(0, from) + source.substring(to));
        for (String line : rest.split("\n")) {
            if (line.matches(".*\\bnew\\b.*")) {
                Check.same(line + " is a field of an object", line.matches(" {8}private final .* = new .*;") ? 1 : 0, 1);
            }
        }
    }

    private static long objects;
    private static long elements;

    private static void room() throws IllegalAccessException {
        objects = 0;
        elements = 0;
        walk(new DamOfTurf(), new IdentityHashMap<>());
        System.out.println("an object of DamOfTurf: " + objects + " objects and arrays, " + elements
                + " fields and elements");
        Check.same("objects and arrays, 100 at most", objects <= 100 ? 1 : 0, 1);
        Check.same("fields and elements, 1500 at most", elements <= 1500 ? 1 : 0, 1);
    }

    private static void walk(Object o, Map<Object, Object> met) throws IllegalAccessException {
        if (o == null || met.put(o, o) != null) {
            return;
        }
        objects++;
        if (o.getClass().isArray()) {
            elements += Array.getLength(o);
            if (!o.getClass().getComponentType().isPrimitive()) {
                for (Object part : (Object[]) o) {
                    walk(part, met);
                }
            }
            return;
        }
        for (Field f : o.getClass().getDeclaredFields()) {
            if (!Modifier.isStatic(f.getModifiers())) {
                elements++;
                f.setAccessible(true);
                if (!f.getType().isPrimitive()) {
                    walk(f.get(o), met);
                }
            }
        }
    }

    /** Any numbers, on a dam at its beginning, with acts, with a full text; a throw ends the test. */
    private static void noCallThrows() throws Exception {
        String[] texts = {"", "c0,0;", "c40,3;c1,0;c1,1;c3,0;c40,3;c40,3;c39,1;c2,1;b0,50;a1,5;f0,60;r0,99,30;p9,9,9,9;"
                + "p1,2,3,4;p0,0,0,1;p1,0,0,0;j0,0,30;j7,1,30;j1,2,30;j2,3,30;j3,0,1;", "c1,0;p0,0,0,0;j0,0,1;", "c1,0;j"};
        for (Method m : DamOfTurf.class.getDeclaredMethods()) {
            if (Modifier.isPublic(m.getModifiers())) {
                for (String text : texts) {
                    callWithAll(m, text);
                }
            }
        }
    }

    private static void callWithAll(Method m, String text) throws Exception {
        DamOfTurf x = null;
        int ways = 1;
        for (int k = 0; k < m.getParameterCount(); k++) {
            ways *= NUMBERS.length;
        }
        int step = ways > 100000 ? 37 : 1;
        int made = 0;
        int laid = 0;
        for (int way = 0; way < ways; way += step) {
            if (made++ % 400 == 0) {
                x = new DamOfTurf();
                Check.type(x, text);
                laid = x.laid();
                x.pass(20);
            }
            Object[] numbers = new Object[m.getParameterCount()];
            int rest = way;
            for (int k = 0; k < numbers.length; k++) {
                numbers[k] = NUMBERS[rest % NUMBERS.length];
                rest /= NUMBERS.length;
            }
            int answer = (Integer) m.invoke(x, numbers);
            if (answer < -4) {
                Check.same(m.getName() + Arrays.toString(numbers), answer, 0);
            }
        }
        Check.same(m.getName() + " was asked of the dam in the text", laid, text.isEmpty() || text.endsWith("j") ? -2
                : text.contains("c40") ? 8 : 1);
    }

    private static void sameCallsSameAnswers() {
        DamOfTurf x = new DamOfTurf();
        DamOfTurf y = new DamOfTurf();
        for (DamOfTurf each : new DamOfTurf[] {x, y}) {
            each.pass(13);
            each.best(2, 1, 20, 0);
            each.gap(20, 0);
            each.odds(2, 9, 4, 0);
        }
        Check.same("two objects by the same calls", Check.state(x), Check.state(y));
    }
}
