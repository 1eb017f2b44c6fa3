import java.io.IOException;
import java.lang.reflect.Array;
import java.lang.reflect.Constructor;
import java.lang.reflect.Field;
import java.lang.reflect.Method;
import java.lang.reflect.Modifier;
import java.nio.file.Files;
import java.nio.file.Path;
import java.util.ArrayList;
import java.util.Arrays;
import java.util.IdentityHashMap;
import java.util.List;
import java.util.Map;
import java.util.TreeSet;
import java.util.regex.Matcher;
import java.util.regex.Pattern;

/** The public face, and those rules of LANGUAGE.md that can be seen from the source and the compiled class. */
public final class LanguageTest {
    private static final String[] FACE = {"boolean state(int)", "boolean price(int,int)", "boolean purse(int)",
        "int feed(int,int,int,int,int)", "int law(int)", "int valley(int)", "int census(int)", "int look(int,int)",
        "int days(int)", "int tried(int,int)", "int askedAt(int,int,int)", "int changePlaces(int,int)",
        "int forms(int,int)", "int leads(int,int,int)", "int back(int,int)", "int cheapest(int,int)",
        "int classes(int)", "int parts(int,int,int)", "int known(int)", "int plan(int,int)", "int logged(int,int)",
        "int next(int,int)", "int odds(int,int,int)", "int inspectors(int,int,int)", "int together(int,int,int)",
        "int alone(int)", "boolean seed(int)", "int keep()", "boolean undo()", "int check(int,int)", "int count(int)"};

    public static void main(String[] args) throws IOException {
        face();
        String source = Files.readString(Path.of("src/main/java/AskedValley.java"));
        String code = source.replaceAll("(?s)/\\*.*?\\*/", "").replaceAll("//[^\n]*", "").replaceAll("\"[^\"\n]*\"", "\"\"");
        words(code);
        made(code);
        lengths(source);
        room();
        Due.end();
    }

    private static void face() {
        TreeSet<String> due = new TreeSet<>(Arrays.asList(FACE));
        TreeSet<String> seen = new TreeSet<>();
        TreeSet<String> names = new TreeSet<>();
        for (Method m : AskedValley.class.getDeclaredMethods()) {
            if (!Modifier.isPrivate(m.getModifiers())) {
                String types = Arrays.toString(m.getParameterTypes()).replace(", ", ",");
                seen.add(m.getReturnType() + " " + m.getName() + "(" + types.substring(1, types.length() - 1) + ")");
                Due.is("public " + m.getName(), Modifier.isPublic(m.getModifiers()), true);
                names.add(m.getName());
            }
        }
        Due.same("the methods", due.toString(), seen.toString());
        for (Field f : AskedValley.class.getDeclaredFields()) {
            boolean isFace = f.getName().equals("NONE");
            Due.is("private " + f.getName(), Modifier.isPrivate(f.getModifiers()), !isFace);
            Due.is("static and not final " + f.getName(), Modifier.isStatic(f.getModifiers()) && !Modifier.isFinal(f.getModifiers()), false);
        }
        Constructor<?>[] made = AskedValley.class.getDeclaredConstructors();
        Due.is("constructors", made.length, 1);
        Due.is("constructor's parameters", made[0].getParameterCount(), 0);
        classes(names);
    }

    private static void classes(TreeSet<String> publicNames) {
        List<Class<?>> all = new ArrayList<>(Arrays.asList(AskedValley.class.getDeclaredClasses()));
        for (Class<?> c : all) {
            Due.is("static " + c, Modifier.isStatic(c.getModifiers()), true);
        }
        all.add(AskedValley.class);
        Due.is("twelve classes at most", all.size() <= 12, true);
        for (Class<?> c : all) {
            int fields = 0;
            for (Field f : c.getDeclaredFields()) {
                fields += Modifier.isStatic(f.getModifiers()) ? 0 : 1;
            }
            Due.is("twenty fields at most " + c, fields <= 20, true);
            for (Method m : c.getDeclaredMethods()) {
                Due.is("seven parameters at most " + m, m.getParameterCount() <= 7, true);
                boolean clash = c != AskedValley.class && publicNames.contains(m.getName());
                Due.is("a public one's name " + m, clash, false);
            }
        }
    }

    private static void words(String code) {
        String[] no = {"throw", "throws", "try", "catch", "finally", "synchronized", "assert", "volatile", "System", "Object",
            "hashCode", "equals", "toString", "Exact", "yield", "var", "double", "float", "Thread", "Random"};
        for (String word : no) {
            Due.is("the word " + word, Pattern.compile("\\b" + word + "\\b").matcher(code).find(), false);
        }
        Due.is("a lambda", code.contains("->"), false);
        Due.is("a method reference", code.contains("::"), false);
        Matcher imports = Pattern.compile("import ([^;]*);").matcher(code);
        while (imports.find()) {
            Due.is("import " + imports.group(1), imports.group(1).equals("java.util.Arrays"), true);
        }
        Matcher calls = Pattern.compile("\\b(Arrays|Integer|Math|Long)\\.(\\w+)").matcher(code);
        while (calls.find()) {
            Due.is(calls.group(), List.of("fill", "bitCount", "min", "max").contains(calls.group(2)), true);
        }
    }

    /** All is made in the constructor or with a field, so that no call makes anything. */
    private static void made(String code) {
        Pattern allowed = Pattern.compile("^        (private final \\S+ )?\\w+ = new .*");
        for (String line : code.split("\n")) {
            if (line.contains("new ")) {
                Due.is("made: " + line, allowed.matcher(line).matches(), true);
            }
        }
    }

    /** All calls of one run live in one room: what an object holds is little, and no call adds to it. */
    private static void room() {
        AskedValley v = new AskedValley();
        int[] first = held(v);
        Due.is("objects and arrays: " + first[0], first[0] <= 100, true);
        Due.is("fields and elements: " + first[1], first[1] <= 10000, true);
        Due.valley(v, "10;a:0>1=0,1>2=0,2>3=0,3>4=0,4>5=0,5>6=0,6>7=0,7>8=0,8>9=0,9>0=0;b:9>0=0");
        Due.law(v, "e1+q(1=1);g9(w<5)");
        for (int call = 0; call < 512; call += 8) {
            v.days(100);
            Due.census(v, "5(8a)");
            Due.forms(v, "abcdefghab", 100);
            v.plan(1023, 0);
            v.known(0);
            v.inspectors(0, 9, 1);
            v.classes(100);
            v.keep();
        }
        int[] last = held(v);
        Due.is("objects and arrays then", last[0], first[0]);
        Due.is("fields and elements then", last[1], first[1]);
    }

    /** How many objects and arrays an object holds, itself too, and how many fields and elements these have. */
    private static int[] held(Object top) {
        Map<Object, Boolean> seen = new IdentityHashMap<>();
        List<Object> all = new ArrayList<>();
        int[] counts = new int[2];
        seen.put(top, true);
        all.add(top);
        for (int i = 0; i < all.size(); i++) {
            Object each = all.get(i);
            counts[0]++;
            counts[1] += each.getClass().isArray() ? Array.getLength(each) : 0;
            for (Field f : each.getClass().getDeclaredFields()) {
                if (!Modifier.isStatic(f.getModifiers())) {
                    counts[1]++;
                    Object value = read(f, each);
                    if (!f.getType().isPrimitive() && value != null && seen.put(value, true) == null) {
                        all.add(value);
                    }
                }
            }
        }
        return counts;
    }

    private static Object read(Field f, Object of) {
        try {
            f.setAccessible(true);
            return f.get(of);
        } catch (IllegalAccessException e) {
            throw new IllegalStateException(e);
        }
    }

    private static void lengths(String source) {
        String[] lines = source.split("\n");
        int start = -1;
        for (int i = 0; i < lines.length; i++) {
            if (lines[i].matches(" {4}( {4})?[a-z].*\\) \\{") && !lines[i].contains("class ")) {
                start = i;
            }
            if (start >= 0 && lines[i].matches(" {4}( {4})?\\}")) {
                Due.is("sixty lines at most: " + lines[start], i - start <= 60, true);
                start = -1;
            }
        }
    }
}
