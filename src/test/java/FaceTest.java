import java.lang.reflect.Array;
import java.lang.reflect.Constructor;
import java.lang.reflect.Field;
import java.lang.reflect.Method;
import java.lang.reflect.Modifier;
import java.nio.file.Files;
import java.nio.file.Path;
import java.util.ArrayList;
import java.util.Arrays;
import java.util.IdentityHashMap;
import java.util.List;
import java.util.Map;
import java.util.Set;
import java.util.TreeSet;
import java.util.regex.Matcher;
import java.util.regex.Pattern;

/** The public face, calls with strange numbers, the room that an object takes, and what can be seen of LANGUAGE.md's rules. */
public final class FaceTest {
    private static final String[] FACE = {
        "int state(int)", "int person(int)", "boolean set(int,int,int)", "boolean act(int,int,int)", "int days(int)",
        "int feed(int,int,int,int,int)", "boolean end(int)", "int text(int)", "int fault(int)", "int of(int,int)",
        "int book(int,int)", "int goes(int,int)", "int high(int,int)", "int door(int)", "boolean date(int,int,int)",
        "int week(int,int,int,int)", "int point(int,int)", "int side(int,int,int)", "int hull(int)", "int turned(int,int)",
        "int weight(int)", "int weighs(int)", "int coins(int,int)", "int slabs(int)", "int row(int,int)", "int shadow(int)",
        "int drip(int)", "int drips(int)", "int told(int)", "int switches(int,int)", "int stage(int)", "int voyage(int,int)",
        "int post(int,int)", "int light(int,int,int)", "int heap(int)", "int heaped(int)", "int game(int,int)",
        "boolean undo()", "boolean image(boolean)", "int look(int)"};
    private static final int[] STRANGE = {Integer.MIN_VALUE, -1000000, -1000, -2, -1, 0, 1, 2, 5, 8, 16, 60, 101, 205, 9999, 1 << 30, Integer.MAX_VALUE};

    public static void main(String[] args) throws Exception {
        face();
        strangeNumbers();
        room();
        language();
        Checks.finish();
    }

    private static void face() {
        Class<?> c = SaltFigures.class;
        Checks.due("public and final", c.getModifiers() == (Modifier.PUBLIC | Modifier.FINAL), true);
        Set<String> seen = new TreeSet<>();
        for (Method m : c.getDeclaredMethods()) {
            if (!Modifier.isPrivate(m.getModifiers())) {
                StringBuilder s = new StringBuilder(m.getReturnType() + " " + m.getName() + "(");
                for (Class<?> p : m.getParameterTypes()) {
                    s.append(s.charAt(s.length() - 1) == '(' ? "" : ",").append(p);
                }
                seen.add(s.append(')').toString());
                Checks.due("public: " + s, m.getModifiers() == Modifier.PUBLIC, true);
            } else {
                boolean again = Arrays.stream(FACE).anyMatch(f -> f.contains(" " + m.getName() + "("));
                Checks.due("a private method with a public name: " + m, again, false);
            }
        }
        Checks.due("the methods: " + seen, seen.equals(new TreeSet<>(List.of(FACE))), true);
        for (Constructor<?> k : c.getDeclaredConstructors()) {
            Checks.due("the constructor", k.getModifiers() == Modifier.PUBLIC && k.getParameterCount() == 0, true);
        }
        for (Field f : c.getDeclaredFields()) {
            boolean none = f.getName().equals("NONE") && f.getModifiers() == (Modifier.PUBLIC | Modifier.STATIC | Modifier.FINAL);
            Checks.due("a field: " + f, none || Modifier.isPrivate(f.getModifiers()), true);
            Checks.due("static but not final: " + f, Modifier.isStatic(f.getModifiers()) && !Modifier.isFinal(f.getModifiers()), false);
        }
        for (Class<?> inside : c.getDeclaredClasses()) {
            Checks.due("static: " + inside, Modifier.isStatic(inside.getModifiers()), true);
            Checks.due("some twenty fields: " + inside, inside.getDeclaredFields().length <= 24, true);
        }
        Checks.due("some twelve classes", c.getDeclaredClasses().length <= 12, true);
        Checks.due("NONE", SaltFigures.NONE, -1);
    }

    /** Whatever is asked, in whatever state: an exception ends the test. */
    private static void strangeNumbers() throws Exception {
        SaltFigures[] states = {new SaltFigures(), busy()};
        for (SaltFigures x : states) {
            for (Method m : SaltFigures.class.getDeclaredMethods()) {
                if (Modifier.isPublic(m.getModifiers())) {
                    callAll(x, m, new ArrayList<>());
                }
            }
        }
    }

    private static SaltFigures busy() {
        SaltFigures x = new SaltFigures();
        for (int i = 0; i < 16; i++) {
            x.person(i % 10);
            x.set(1, i, 9999 - 600 * i);
            x.act(1, i, 15 - i);
        }
        Checks.tell(x, 0, "spills 999;throws salt*beside*day;runs salt/3+heirs;", 3);
        Checks.tell(x, 2, "on 1 cattle 999;on 2 feast;on 3 die 3;on 4 wet 9;", 4);
        Checks.tell(x, 3, "person 3 heir 4;", 1);
        for (int i = 0; i < 10; i++) {
            x.point(i, i * i);
            x.weight(60 - i);
            x.row(0, i % 3);
            x.row(1, i % 2);
            x.drip(30 - i);
            x.stage(20 - i);
            x.post(i + 1, 60 - i);
            x.heap(99 - i);
        }
        x.image(true);
        x.days(9);
        return x;
    }

    private static void callAll(SaltFigures x, Method m, List<Object> so) throws Exception {
        if (so.size() == m.getParameterCount()) {
            m.invoke(x, so.toArray());
            Checks.due("called", 0, 0);
            return;
        }
        if (m.getParameterTypes()[so.size()] == boolean.class) {
            m.invoke(x, true);
            m.invoke(x, false);
            return;
        }
        int few = m.getParameterCount() > 3 ? 4 : 1;
        for (int i = so.size() % few; i < STRANGE.length; i += few) {
            so.add(STRANGE[i]);
            callAll(x, m, so);
            so.remove(so.size() - 1);
        }
    }

    /** Objects and arrays with all their fields and elements; a run may hold 600,000 and 7.3 million. */
    private static void room() throws Exception {
        String source = source();
        long[] counted = count(busy());
        System.out.println("an object takes " + counted[0] + " objects and arrays with " + counted[1] + " fields and elements");
        Checks.due("objects for 512 new ones", counted[0] * 512 < 600000, true);
        Checks.due("elements for 512 new ones", counted[1] * 512 < 7300000, true);
        // Nothing is made but in constructors, and once each what is kept for UNDO and THE IMAGE.
        for (String line : source.split("\n")) {
            if (line.contains(" new ")) {
                boolean field = line.matches("        (private )?final \\S+ \\w+ = new .*");
                boolean made = line.matches("        \\w+ = new .*| {12,16}(kept\\[i\\]|values|picture) = new .*");
                Checks.due("made elsewhere: " + line, field || made, true);
            }
        }
    }

    private static long[] count(Object root) throws Exception {
        Map<Object, Boolean> seen = new IdentityHashMap<>();
        List<Object> open = new ArrayList<>(List.of(root));
        long elements = 0;
        while (!open.isEmpty()) {
            Object o = open.remove(open.size() - 1);
            if (seen.put(o, true) != null) {
                continue;
            }
            if (o.getClass().isArray()) {
                elements += Array.getLength(o);
                for (int i = 0; i < Array.getLength(o); i++) {
                    if (!o.getClass().getComponentType().isPrimitive() && Array.get(o, i) != null) {
                        open.add(Array.get(o, i));
                    }
                }
                continue;
            }
            for (Field f : o.getClass().getDeclaredFields()) {
                if (!Modifier.isStatic(f.getModifiers())) {
                    elements++;
                    f.setAccessible(true);
                    if (!f.getType().isPrimitive() && f.get(o) != null) {
                        open.add(f.get(o));
                    }
                }
            }
        }
        return new long[] {seen.size(), elements};
    }

    private static String source() throws Exception {
        return Files.readString(Path.of("src/main/java/SaltFigures.java"));
    }

    private static void language() throws Exception {
        String bare = source().replaceAll("(?s)/\\*.*?\\*/", "").replaceAll("//[^\n]*", "")
                .replaceAll("\"[^\"]*\"", "\"\"").replaceAll("'[^']*'", "' '");
        for (String word : new String[] {"throw", "throws", "try", "catch", "finally", "synchronized", "assert", "package", "native",
            "volatile", "transient", "double", "float", "protected", "default ->", "->", "::", "Exact", "System.out", "Object"}) {
            String pattern = Character.isLetter(word.charAt(0)) ? "\\b" + Pattern.quote(word) : Pattern.quote(word);
            Matcher m = Pattern.compile(pattern + (Character.isLetter(word.charAt(word.length() - 1)) ? "\\b" : "")).matcher(bare);
            Checks.due("stands in the source: " + word, m.find(), false);
        }
        Matcher imports = Pattern.compile("(?m)^import (.*);").matcher(bare);
        while (imports.find()) {
            Checks.due("import " + imports.group(1), imports.group(1).equals("java.util.Arrays"), true);
        }
        Matcher calls = Pattern.compile("\\b(Math|Integer|Arrays|System|String|Long|KEYWORDS|SIGNS)\\.(\\w+)").matcher(bare);
        List<String> known = List.of("Math.max", "Math.min", "Math.floorMod", "Integer.signum", "Integer.bitCount",
                "Arrays.fill", "System.arraycopy", "KEYWORDS.length", "KEYWORDS.charAt", "SIGNS.indexOf");
        while (calls.find()) {
            Checks.due("a call of " + calls.group(), known.contains(calls.group()), true);
        }
        shortMethods(bare);
    }

    private static void shortMethods(String bare) {
        String[] lines = bare.split("\n");
        int from = -1;
        String indent = "";
        for (int i = 0; i < lines.length; i++) {
            Matcher m = Pattern.compile("^((?:    ){1,2})(?:[\\w\\[\\]]+ )*\\w+\\(.*\\) \\{$").matcher(lines[i]);
            if (from == -1 && m.matches()) {
                from = i;
                indent = m.group(1);
                Checks.due("seven parameters: " + lines[i], lines[i].split(",").length <= 7, true);
            } else if (from != -1 && lines[i].equals(indent + "}")) {
                Checks.due("some sixty lines: " + lines[from], i - from <= 60, true);
                from = -1;
            }
        }
    }
}
