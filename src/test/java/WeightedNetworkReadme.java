import java.lang.reflect.Method;
import java.lang.reflect.Modifier;
import java.nio.file.Files;
import java.nio.file.Path;
import java.util.Set;
import java.util.TreeSet;
import java.util.regex.Matcher;
import java.util.regex.Pattern;

/** The example in README.md: each of its calls gives the answer that stands beside it, and none is left out. */
public final class WeightedNetworkReadme {
    private static final Pattern CALL = Pattern.compile("n\\.(\\w+)\\(([-0-9, ]*)\\);\\s*// (-?\\w+)(:.*)?");

    public static void main(String[] args) throws Exception {
        String readme = Files.readString(Path.of("README.md"));
        int start = readme.indexOf("```java\n");
        int end = readme.indexOf("```", start + 3);
        if (start < 0 || end < 0) {
            System.out.println("there is no example in README.md");
            System.exit(1);
        }
        WeightedNetwork n = new WeightedNetwork();
        Set<String> shown = new TreeSet<>();
        int wrong = 0;
        for (String line : readme.substring(start, end).split("\n")) {
            if (!line.startsWith("n.")) {
                continue;
            }
            Matcher call = CALL.matcher(line);
            String got = call.matches() ? answer(n, call.group(1), call.group(2)) : "nothing that can be read";
            if (!call.matches() || !got.equals(call.group(3))) {
                wrong++;
                System.out.println("README.md: " + line + " answered " + got);
            } else {
                shown.add(call.group(1));
            }
        }
        for (Method method : WeightedNetwork.class.getDeclaredMethods()) {
            if (Modifier.isPublic(method.getModifiers()) && !shown.contains(method.getName())) {
                wrong++;
                System.out.println("README.md does not show " + method.getName());
            }
        }
        System.out.println(wrong == 0 ? "the example is right" : wrong + " faults in the example");
        if (wrong != 0) {
            System.exit(1);
        }
    }

    private static String answer(WeightedNetwork n, String name, String list) throws Exception {
        String[] texts = list.isBlank() ? new String[0] : list.split(",");
        Class<?>[] types = new Class<?>[texts.length];
        Object[] arguments = new Object[texts.length];
        for (int place = 0; place < texts.length; place++) {
            types[place] = int.class;
            arguments[place] = Integer.valueOf(texts[place].trim());
        }
        return String.valueOf(WeightedNetwork.class.getMethod(name, types).invoke(n, arguments));
    }
}
