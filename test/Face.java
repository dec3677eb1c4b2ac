import java.lang.reflect.Constructor;
import java.lang.reflect.Field;
import java.lang.reflect.Method;
import java.lang.reflect.Modifier;
import java.nio.file.Files;
import java.nio.file.Path;
import java.util.Set;
import java.util.TreeSet;
import java.util.regex.Matcher;
import java.util.regex.Pattern;

/** The class shows the document's face and no more, and keeps to the rules that can be seen from outside. */
public final class Face {
    private static final String[] METHODS = {
        "write(int,long)", "wipe()", "fault()", "lay()", "bin(int,int)", "gap(int,int)", "night()",
        "pour(int,int,int)", "left(int,int)", "lost(int,int)", "order(int,int)", "exchanged(int)",
        "pours(int,int,int)", "corn(int,int)", "cats(int,int,int)", "moves(int)", "was(int,int,int)",
        "others(int,int)", "drawn(int,int)", "ten(int,int)", "keep()", "back()", "count(int)"};
    private static final String[] NOT_IN_SOURCE = {
        "\\bimport\\b", "\\bpackage\\b", "->", "::", "Exact\\b", "\\btry\\b", "\\bcatch\\b", "\\bfinally\\b",
        "\\bsynchronized\\b", "\\bassert\\b", "\\bthrow\\b", "Math\\.random", "System\\.(?!arraycopy)", "\\bThread\\b"};
    private static int wrong = 0;

    private static void hold(boolean so, String what) {
        if (!so) {
            wrong++;
            System.out.println("not so: " + what);
        }
    }

    private static String signature(Method m) {
        StringBuilder s = new StringBuilder(m.getName()).append('(');
        for (Class<?> p : m.getParameterTypes()) {
            s.append(s.charAt(s.length() - 1) == '(' ? "" : ",").append(p.getName());
        }
        return s.append(')').toString();
    }

    private static void publicMembers() {
        Set<String> due = new TreeSet<>(Set.of(METHODS));
        for (Method m : RatsEat.class.getDeclaredMethods()) {
            int mods = m.getModifiers();
            if (Modifier.isPrivate(mods)) {
                continue;
            }
            hold(Modifier.isPublic(mods) && m.getReturnType() == int.class, "public int " + m);
            hold(due.remove(signature(m)), "told: " + m);
        }
        hold(due.isEmpty(), "all methods are there, not " + due);
        Set<String> constants = new TreeSet<>();
        for (Field f : RatsEat.class.getDeclaredFields()) {
            if (!Modifier.isPrivate(f.getModifiers())) {
                constants.add(f.getName());
                hold(f.getType() == int.class && Modifier.toString(f.getModifiers()).equals("public static final"), "" + f);
            }
        }
        hold(constants.equals(Set.of("BAD", "NO", "FULL", "NONE")), "the constants, not " + constants);
        Constructor<?>[] made = RatsEat.class.getDeclaredConstructors();
        hold(made.length == 1 && made[0].getParameterCount() == 0 && Modifier.isPublic(made[0].getModifiers()), "one constructor");
        hold(Modifier.isFinal(RatsEat.class.getModifiers()), "final");
    }

    private static void inside(Class<?> c, Set<String> names) {
        int fields = 0;
        for (Field f : c.getDeclaredFields()) {
            fields += Modifier.isStatic(f.getModifiers()) ? 0 : 1;
            hold(!Modifier.isStatic(f.getModifiers()) || Modifier.isFinal(f.getModifiers()), "final: " + f);
        }
        hold(fields <= 20, "at most twenty fields in " + c);
        for (Method m : c.getDeclaredMethods()) {
            hold(m.getParameterCount() <= 7, "at most seven parameters: " + m);
            hold(Modifier.isPublic(m.getModifiers()) || !names.contains(m.getName()), "a name of its own: " + m);
        }
    }

    private static void source() throws Exception {
        String text = Files.readString(Path.of("src/main/java/RatsEat.java"));
        String code = text.replaceAll("(?s)/\\*.*?\\*/", "").replaceAll("//[^\n]*", "");
        for (String not : NOT_IN_SOURCE) {
            Matcher m = Pattern.compile(not).matcher(code);
            hold(!m.find(), "without " + not);
        }
        hold(text.chars().allMatch(c -> c < 128), "plain signs");
        for (String line : code.split("\n")) {
            hold(!line.matches(".*\\bnew\\b.*") || line.matches("\\s*private final \\S+ \\w+ = new .*"), "made with a field: " + line);
        }
    }

    public static void main(String[] args) throws Exception {
        publicMembers();
        Set<String> names = new TreeSet<>();
        for (String m : METHODS) {
            names.add(m.substring(0, m.indexOf('(')));
        }
        inside(RatsEat.class, names);
        Class<?>[] nested = RatsEat.class.getDeclaredClasses();
        hold(nested.length + 1 <= 12, "at most twelve classes");
        for (Class<?> c : nested) {
            hold(Modifier.isStatic(c.getModifiers()) && !Modifier.isPublic(c.getModifiers()), "static, not public: " + c);
            inside(c, names);
        }
        source();
        System.out.println(wrong == 0 ? "the face is as told" : wrong + " things are not as told");
        if (wrong != 0) {
            System.exit(1);
        }
    }
}
