import java.lang.reflect.Constructor;
import java.lang.reflect.Field;
import java.lang.reflect.Method;
import java.lang.reflect.Modifier;
import java.nio.file.Files;
import java.nio.file.Path;
import java.util.Set;
import java.util.TreeSet;
import java.util.regex.Matcher;
import java.util.regex.Pattern;

/** The public face, member by member, and those rules of LANGUAGE.md that a text search can see. */
public final class WeightedNetworkFace {
    private static final String SOURCE = "src/main/java/WeightedNetwork.java";
    private static final Set<String> MEMBERS = Set.of(
            "public static final int BAD_VARIABLE", "public static final int BAD_VALUE",
            "public static final int BAD_COST", "public static final int BAD_TABLE",
            "public static final int FULL", "public static final int NONE",
            "public WeightedNetwork()",
            "public int WeightedNetwork.cost(int,int,int)", "public int WeightedNetwork.table(int,int)",
            "public int WeightedNetwork.pair(int,int,int)", "public int WeightedNetwork.drop()",
            "public int WeightedNetwork.least()", "public int WeightedNetwork.value(int)",
            "public int WeightedNetwork.leastWith(int,int)", "public int WeightedNetwork.ties()",
            "public int WeightedNetwork.allowed()", "public int WeightedNetwork.upTo(int)",
            "public boolean WeightedNetwork.canAgree(int,int)");
    private static final String OUTSIDE = "import|package|float|double|String|Math|Integer|Long|System|Arrays"
            + "|Object|null|throw|throws|try|catch|synchronized|assert|instanceof|interface|enum|record|protected|var";

    private static int wrong = 0;

    public static void main(String[] args) throws Exception {
        face();
        fields();
        text(Files.readString(Path.of(SOURCE)));
        System.out.println(wrong == 0 ? "the face is the document's" : wrong + " faults in the face");
        if (wrong != 0) {
            System.exit(1);
        }
    }

    private static void fault(String what) {
        wrong++;
        System.out.println(what);
    }

    private static void face() {
        Class<?> type = WeightedNetwork.class;
        if (type.getModifiers() != (Modifier.PUBLIC | Modifier.FINAL)) {
            fault("the class is not just public and final");
        }
        if (type.getDeclaredClasses().length != 0) {
            fault("there is a nested class");
        }
        Set<String> seen = new TreeSet<>();
        Set<String> publicNames = new TreeSet<>();
        for (Field field : type.getDeclaredFields()) {
            if (!Modifier.isPrivate(field.getModifiers())) {
                seen.add(Modifier.toString(field.getModifiers()) + " " + field.getType() + " " + field.getName());
            }
        }
        for (Constructor<?> constructor : type.getDeclaredConstructors()) {
            seen.add(constructor.toString());
        }
        for (Method method : type.getDeclaredMethods()) {
            if (!Modifier.isPrivate(method.getModifiers())) {
                seen.add(method.toString());
                publicNames.add(method.getName());
            }
        }
        for (Method method : type.getDeclaredMethods()) {
            if (Modifier.isPrivate(method.getModifiers()) && publicNames.contains(method.getName())) {
                fault("a private method bears a public name: " + method.getName());
            }
            if (method.getParameterCount() > 7) {
                fault("more than seven parameters: " + method.getName());
            }
        }
        if (!seen.equals(MEMBERS)) {
            fault("the face is " + seen + ", due is " + new TreeSet<>(MEMBERS));
        }
    }

    private static void fields() {
        for (Field field : WeightedNetwork.class.getDeclaredFields()) {
            Class<?> type = field.getType();
            boolean isStatic = Modifier.isStatic(field.getModifiers());
            if (isStatic && (!Modifier.isFinal(field.getModifiers()) || type != int.class && type != long.class)) {
                fault("a static field is not a constant of int or long: " + field.getName());
            }
            Class<?> element = type.isArray() ? type.getComponentType() : type;
            if (!element.isPrimitive()) {
                fault("a field's type is outside the language: " + field.getName());
            }
        }
    }

    private static void text(String source) {
        String code = source.replaceAll("(?s)/\\*.*?\\*/", " ").replaceAll("//[^\n]*", " ");
        Matcher word = Pattern.compile("\\b(" + OUTSIDE + ")\\b|->|::|\"").matcher(code);
        while (word.find()) {
            fault("outside the language: " + word.group());
        }
        Matcher made = Pattern.compile("[^\n]*\\bnew\\b[^\n]*").matcher(code);
        while (made.find()) {
            if (!made.group().matches(" {4}private final int\\[\\] \\w+ = new int\\[\\w+\\];")) {
                fault("made outside a field's initialiser: " + made.group().trim());
            }
        }
        Matcher nested = Pattern.compile("\\b\\w+\\([^()]*\\b\\w+\\(").matcher(withoutHeads(code));
        while (nested.find()) {
            fault("a call inside the arguments of another: " + nested.group());
        }
    }

    /** The parenthesis that opens the head of a statement is not that of a call. */
    private static String withoutHeads(String code) {
        return code.replaceAll("\\b(if|for|while|switch)\\s*\\(", "$1 [");
    }
}
