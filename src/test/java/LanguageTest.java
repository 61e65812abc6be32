import java.lang.reflect.Constructor;
import java.lang.reflect.Field;
import java.lang.reflect.Member;
import java.lang.reflect.Method;
import java.lang.reflect.Modifier;
import java.nio.file.Files;
import java.nio.file.Path;
import java.util.ArrayList;
import java.util.Arrays;
import java.util.List;
import java.util.Set;
import java.util.TreeSet;
import java.util.regex.Matcher;
import java.util.regex.Pattern;

/** The rules of ../shared/LANGUAGE.md that can be seen without reading: rules 1 to 6, 11. Run at the project's root. */
final class LanguageTest {
    private static final Due due = new Due();
    private static final String[] FACE = {
        "way(int, int, int, int)", "gate(int, boolean)", "told(int, int)", "person(int, int, int)", "of(int, int)", "costs(int, int, int)",
        "far(int, int, int)", "given(int, int)", "rule(int)", "type(long, int)", "town()", "people()", "count(int)", "go(int, int)",
        "carry(int, int, int)", "lend(int, int, int)", "pay(int, int, int)", "owes(int, int)", "month()", "meet(int, int, int)",
        "errand(int)", "rest()", "parted(int)", "tour(int, int)", "wells(int, int, int)", "hold(int, int, int)", "stops(int, int)",
        "image()", "restore()", "lies(int, int, int)", "sheet(int, int, int)", "drop(int)", "item(int, int, int, long)", "film(int, int, int)"};
    private static final Object[][] CONSTANTS = {
        {"BAD", -1}, {"NOT", -2}, {"FULL", -3}, {"NONE", -4}, {"NULL", -11}, {"CAST", -12}, {"INDEX", -13}, {"SIZE", -14}};

    public static void main(String[] args) throws Exception {
        face();
        membersInside();
        String source = bare(Files.readString(Path.of("src/main/java/StepRings.java")));
        words(source);
        library(source);
        methods(source);
        due.end();
    }

    private static void face() throws Exception {
        Class<?> c = StepRings.class;
        due.holds("rule 1: public and final", Modifier.isPublic(c.getModifiers()) && Modifier.isFinal(c.getModifiers()));
        due.holds("rule 1: no package", c.getPackageName().isEmpty());
        Set<String> want = new TreeSet<>(Arrays.asList(FACE));
        Set<String> got = new TreeSet<>();
        for (Method m : c.getDeclaredMethods()) {
            if (!Modifier.isPrivate(m.getModifiers())) {
                due.holds("rule 1: public " + m, Modifier.isPublic(m.getModifiers()) && m.getReturnType() == int.class && !Modifier.isStatic(m.getModifiers()));
                StringBuilder types = new StringBuilder();
                for (Class<?> p : m.getParameterTypes()) {
                    types.append(types.length() == 0 ? "" : ", ").append(p.getName());
                }
                got.add(m.getName() + "(" + types + ")");
            }
        }
        due.holds("rule 1: the face is " + got, got.equals(want));
        Constructor<?>[] made = c.getDeclaredConstructors();
        due.holds("rule 1: one constructor", made.length == 1 && made[0].getParameterCount() == 0 && Modifier.isPublic(made[0].getModifiers()));
        for (Object[] k : CONSTANTS) {
            due.is("constant " + k[0], c.getField((String) k[0]).getInt(null), (Integer) k[1]);
        }
        due.is("rule 1: no other public field", c.getFields().length, CONSTANTS.length);
        for (Field f : c.getDeclaredFields()) {
            due.holds("rule 1: field " + f, Modifier.isPublic(f.getModifiers()) || Modifier.isPrivate(f.getModifiers()));
        }
    }

    private static void membersInside() {
        Set<String> names = new TreeSet<>();
        for (String f : FACE) {
            names.add(f.substring(0, f.indexOf('(')));
        }
        List<Class<?>> all = new ArrayList<>(List.of(StepRings.class.getDeclaredClasses()));
        due.holds("rule 11: classes", all.size() + 1 <= 12);
        for (Class<?> c : all) {
            due.holds("rule 2: static " + c, Modifier.isStatic(c.getModifiers()) && !Modifier.isPublic(c.getModifiers()));
        }
        all.add(StepRings.class);
        for (Class<?> c : all) {
            int fields = 0;
            for (Field f : c.getDeclaredFields()) {
                boolean constant = Modifier.isStatic(f.getModifiers());
                fields += constant ? 0 : 1;
                due.holds("rule 5: static fields are final: " + f, !constant || Modifier.isFinal(f.getModifiers()));
                due.holds("rule 3: " + f, isType(f.getType()));
            }
            due.holds("rule 11: fields of " + c, fields <= 20);
            for (Method m : c.getDeclaredMethods()) {
                due.holds("rule 2: no lambda, no bridge: " + m, !m.isSynthetic());
                due.holds("rule 11: parameters of " + m, m.getParameterCount() <= 7);
                due.holds("rule 1: a name of the face: " + m, isOfTheFace(m) || !names.contains(m.getName()));
                due.holds("rule 6: no equals, hashCode, toString: " + m, !Set.of("equals", "hashCode", "toString").contains(m.getName()));
            }
        }
    }

    private static boolean isOfTheFace(Member m) {
        return m.getDeclaringClass() == StepRings.class && Modifier.isPublic(m.getModifiers());
    }

    private static boolean isType(Class<?> t) {
        if (t.isArray() && t.getComponentType().isArray()) {
            return t.getComponentType().getComponentType().isPrimitive();
        }
        Class<?> one = t.isArray() ? t.getComponentType() : t;
        return one.isPrimitive() || one == String.class || one.getName().startsWith("StepRings");
    }

    /** Without comments and what stands between quotes. */
    private static String bare(String source) {
        String s = source.replaceAll("(?s)/\\*.*?\\*/", " ").replaceAll("//[^\n]*", " ");
        return s.replaceAll("\"[^\"\n]*\"", "\"\"").replaceAll("'\\\\?.'", "' '");
    }

    private static void words(String source) {
        String[] never = {
            "throw", "throws", "try", "catch", "finally", "synchronized", "assert", "package", "protected", "volatile", "native", "super", "new Thread",
            "Object", "Exception", "Error", "hashCode", "toString", "NaN", "Random", "MAX_VALUE", "MIN_VALUE", "while \\(true\\)", "for \\(;;\\)"};
        for (String word : never) {
            due.holds("rule 6: " + word, !Pattern.compile("\\b" + word + "\\b").matcher(source).find());
        }
        due.holds("rule 2: ->", !source.contains("->"));
        due.holds("rule 2: ::", !source.contains("::"));
        due.holds("rule 4: Exact", !source.contains("Exact"));
        due.holds("rule 5: static {", !Pattern.compile("static\\s*\\{").matcher(source).find());
        due.holds("signs 1 to 127", source.chars().allMatch(c -> c > 0 && c < 128));
    }

    private static void library(String source) {
        Matcher imports = Pattern.compile("import ([^;]*);").matcher(source);
        while (imports.find()) {
            due.holds("rule 4: " + imports.group(), Set.of("java.util.Arrays", "java.util.ArrayList", "java.util.List").contains(imports.group(1)));
        }
        Matcher uses = Pattern.compile("\\b(System|Arrays|Math|Integer|Long)\\.(\\w+)").matcher(source);
        Set<String> free = Set.of(
            "System.arraycopy", "Arrays.fill", "Arrays.copyOf", "Arrays.copyOfRange", "Math.min", "Math.max", "Math.abs", "Math.floorDiv", "Math.floorMod",
            "Integer.bitCount", "Integer.compare", "Long.compare");
        while (uses.find()) {
            due.holds("rule 4: " + uses.group(), free.contains(uses.group()));
        }
    }

    private static void methods(String source) {
        String[] lines = source.split("\n", -1);
        for (int i = 0; i < lines.length; i++) {
            Matcher head = Pattern.compile("^( +)[\\w\\[\\] ]+\\(.*\\) \\{$").matcher(lines[i]);
            if (!head.find() || lines[i].matches(" *(if|for|while|switch|else|do)\\b.*")) {
                continue;
            }
            int end = i;
            while (end < lines.length && !lines[end].equals(head.group(1) + "}")) {
                end++;
            }
            due.holds("rule 11: as long as sixty lines: " + lines[i].trim(), end - i < 60);
        }
    }
}
