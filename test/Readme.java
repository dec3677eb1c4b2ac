import java.lang.reflect.Method;
import java.lang.reflect.Modifier;
import java.nio.file.Files;
import java.nio.file.Path;
import java.util.regex.Matcher;
import java.util.regex.Pattern;

/** README.md's example answers what stands beside each line of it, and README.md tells of every call and every test. */
public final class Readme extends Checks {
    private static final Pattern LINE = Pattern.compile("x\\.(\\w+)\\((.*?)\\); +// (-?\\d+): .*");

    private static Method named(String name) {
        for (Method m : RatsEat.class.getDeclaredMethods()) {
            if (Modifier.isPublic(m.getModifiers()) && m.getName().equals(name)) {
                return m;
            }
        }
        return null;
    }

    private static Object[] numbers(Method m, String told) {
        String[] parts = told.isEmpty() ? new String[0] : told.split(", ");
        Object[] all = new Object[parts.length];
        for (int k = 0; k < parts.length; k++) {
            if (m.getParameterTypes()[k] == long.class) {
                all[k] = Long.decode(parts[k].replace("L", ""));
            } else {
                all[k] = Integer.decode(parts[k]);
            }
        }
        return all;
    }

    private static void example(String readme) throws Exception {
        String block = readme.substring(readme.indexOf("```java\n") + 8);
        String[] lines = block.substring(0, block.indexOf("```")).split("\n");
        hold("the example makes an object", lines[0].startsWith("RatsEat x = new RatsEat();"));
        RatsEat x = new RatsEat();
        for (int k = 1; k < lines.length; k++) {
            Matcher m = LINE.matcher(lines[k]);
            Method call = m.matches() ? named(m.group(1)) : null;
            hold("a call with its answer: " + lines[k], call != null);
            if (call != null) {
                due(lines[k], (Integer) call.invoke(x, numbers(call, m.group(2))), Integer.parseInt(m.group(3)));
            }
        }
    }

    private static void everyCall(String readme) {
        for (Method m : RatsEat.class.getDeclaredMethods()) {
            if (Modifier.isPublic(m.getModifiers())) {
                Matcher told = Pattern.compile("(?m)^\\| .*`" + m.getName() + "\\(([^)]*)\\)`.* \\|$").matcher(readme);
                boolean found = told.find();
                hold("told: " + m.getName(), found);
                if (found) {
                    int many = told.group(1).isEmpty() ? 0 : told.group(1).split(", ").length;
                    due("numbers of " + m.getName(), many, m.getParameterCount());
                }
            }
        }
    }

    private static void everyTest(String readme) throws Exception {
        try (var files = Files.newDirectoryStream(Path.of("test"), "*.java")) {
            for (Path file : files) {
                hold("told: " + file, readme.contains(file.getFileName().toString()));
            }
        }
    }

    public static void main(String[] args) throws Exception {
        String readme = Files.readString(Path.of("README.md"));
        example(readme);
        everyCall(readme);
        everyTest(readme);
        end();
    }
}
