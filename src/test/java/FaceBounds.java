import java.lang.reflect.Constructor;
import java.lang.reflect.Field;
import java.lang.reflect.Method;
import java.lang.reflect.Modifier;
import java.util.Arrays;
import java.util.TreeSet;
import java.util.regex.Matcher;
import java.util.regex.Pattern;

/** The public face, as the document sets it, and the call that each promise is about. */
final class FaceBounds {
    private static final String FACE = "The public face";
    private static final int PROMISES = 32;

    private FaceBounds() {
    }

    static void run() {
        TreeSet<String> told = new TreeSet<>();
        for (String line : Sentence.text(FACE).split("\n")) {
            if (line.contains("public ")) {
                Sentence.of(FACE, line.trim());
                Due.is("the class has it", members().contains(plain(line)), true);
                told.add(plain(line));
            }
        }
        if (!told.isEmpty()) {
            Due.about(FACE);
            Due.same("all that is public", told.toString(), members().toString());
            promises(told);
        }
    }

    /** A line of the face without the names of parameters and without its last sign. */
    private static String plain(String line) {
        return line.trim().replaceAll("[;{]$", "").replaceAll("(int) [a-z]+(?=[,)])", "$1").replace(" = -1", "").trim();
    }

    /** Each promise begins with its call, as the face has it. */
    private static void promises(TreeSet<String> told) {
        Pattern call = Pattern.compile("`([^`]*)`: ");
        for (int n = 1; n <= PROMISES; n++) {
            String section = "Promise " + n;
            Matcher first = call.matcher(Sentence.text(section));
            Due.about(section);
            Due.is("it begins with a call", first.find(), true);
            Sentence.of(section, first.group());
            Due.is("the face has it", told.contains("public " + plain(first.group(1))), true);
        }
    }

    private static String types(Class<?>[] types) {
        return Arrays.toString(types).replace("[", "(").replace("]", ")");
    }

    private static TreeSet<String> members() {
        TreeSet<String> all = new TreeSet<>();
        all.add(Modifier.toString(AskedValley.class.getModifiers()) + " class " + AskedValley.class.getName());
        for (Field f : AskedValley.class.getFields()) {
            all.add(Modifier.toString(f.getModifiers()) + " " + f.getType() + " " + f.getName());
        }
        for (Constructor<?> c : AskedValley.class.getConstructors()) {
            all.add(Modifier.toString(c.getModifiers()) + " " + c.getName() + types(c.getParameterTypes()));
        }
        for (Method m : AskedValley.class.getDeclaredMethods()) {
            if (!Modifier.isPrivate(m.getModifiers())) {
                all.add(Modifier.toString(m.getModifiers()) + " " + m.getReturnType() + " " + m.getName() + types(m.getParameterTypes()));
            }
        }
        return all;
    }
}
