import java.io.IOException;
import java.lang.reflect.Constructor;
import java.lang.reflect.Field;
import java.lang.reflect.Member;
import java.lang.reflect.Method;
import java.lang.reflect.Modifier;
import java.nio.file.Files;
import java.nio.file.Path;
import java.util.Arrays;
import java.util.Set;
import java.util.TreeSet;
import java.util.regex.Matcher;
import java.util.regex.Pattern;

/** What of the language's rules can be seen by a look at the class and its text. */
public final class RulesTest {
    private static final Path SOURCE = Path.of("src/main/java/KeptColours.java");
    private static final String[] FACE = {
        "net/2", "target/3", "paint/3", "colour/2", "aim/2", "isOf/2", "clear/0", "copies/1", "copy/2", "degree/2",
        "triangles/0", "least/1", "turned/1", "turns/1", "list/2", "listed/2", "form/1", "same/0", "puts/0", "put/1",
        "drop/0", "fill/1", "tries/0", "prove/0", "row/2", "forge/2", "check/0", "step/1", "undo/0", "count/1"};
    private static final String[] CONSTANTS = {"BAD", "NO", "FULL", "LARGE", "SPENT", "NONE"};
    private static final String[] FORBIDDEN = {
        "\\bthrow\\b", "\\bthrows\\b", "\\btry\\b", "\\bcatch\\b", "\\bsynchronized\\b", "\\bassert\\b", "->", "::",
        "\\w+Exact\\b", "\\bpackage\\b", "\\bprotected\\b", "\\bvar\\b", "\\bObject\\b", "\\bstatic\\s*\\{",
        "\\bSystem\\.(?!arraycopy\\b)", "\\bArrays\\.(?!(copyOf|copyOfRange|fill)\\b)", "\\bMath\\.(?!(min|max|abs)\\b)",
        "\\bequals\\b", "\\bhashCode\\b", "\\btoString\\b", "\\bdouble\\b", "\\bfloat\\b"};
    private static final int MOST_LINES = 60, MOST_PARAMETERS = 7, MOST_CLASSES = 12, MOST_FIELDS = 20;

    private static int wrong;

    public static void main(String[] args) throws IOException {
        face();
        classes();
        text(plainText(Files.readString(SOURCE)));
        System.out.println(wrong == 0 ? "the rules are kept" : wrong + " rules are not kept");
        if (wrong != 0) {
            System.exit(1);
        }
    }

    private static void must(boolean holds, String rule) {
        if (!holds) {
            wrong++;
            System.out.println("not kept: " + rule);
        }
    }

    private static void face() {
        Set<String> methods = new TreeSet<>();
        for (Method method : KeptColours.class.getDeclaredMethods()) {
            if (!Modifier.isPrivate(method.getModifiers())) {
                must(Modifier.isPublic(method.getModifiers()) && !Modifier.isStatic(method.getModifiers()), method + " is public");
                must(method.getReturnType() == int.class, method + " answers an int");
                methods.add(method.getName() + "/" + method.getParameterCount());
                must(Arrays.stream(method.getParameterTypes()).allMatch(type -> type == int.class), method + " takes ints");
            }
        }
        must(methods.equals(new TreeSet<>(Arrays.asList(FACE))), "the methods of the face: " + methods);
        Set<String> constants = new TreeSet<>();
        for (Field field : KeptColours.class.getDeclaredFields()) {
            if (!Modifier.isPrivate(field.getModifiers())) {
                must(field.getModifiers() == (Modifier.PUBLIC | Modifier.STATIC | Modifier.FINAL), field + " is a constant");
                constants.add(field.getName());
            }
        }
        must(constants.equals(new TreeSet<>(Arrays.asList(CONSTANTS))), "the constants of the face: " + constants);
        Constructor<?>[] constructors = KeptColours.class.getDeclaredConstructors();
        must(constructors.length == 1 && constructors[0].getParameterCount() == 0, "one constructor");
        must(Modifier.isFinal(KeptColours.class.getModifiers()), "the class is final");
    }

    private static void classes() {
        Set<String> publicNames = new TreeSet<>();
        for (String name : FACE) {
            publicNames.add(name.substring(0, name.indexOf('/')));
        }
        Class<?>[] inside = KeptColours.class.getDeclaredClasses();
        must(inside.length + 1 <= MOST_CLASSES, "so many classes");
        fields(KeptColours.class);
        for (Class<?> type : inside) {
            must(Modifier.isStatic(type.getModifiers()) && !Modifier.isPublic(type.getModifiers()), type + " is static");
            fields(type);
            for (Method method : type.getDeclaredMethods()) {
                must(!publicNames.contains(method.getName()), method + " bears a public name");
                must(method.getParameterCount() <= MOST_PARAMETERS, method + " takes so many");
            }
        }
    }

    private static void fields(Class<?> type) {
        int own = 0;
        for (Field field : type.getDeclaredFields()) {
            boolean isStatic = isStatic(field);
            must(!isStatic || Modifier.isFinal(field.getModifiers()), field + " is final");
            must(!isStatic || field.getType() == int.class || field.getType() == int[].class, field + " is a constant");
            own += isStatic ? 0 : 1;
        }
        must(own <= MOST_FIELDS, type + " has so many fields");
    }

    private static boolean isStatic(Member member) {
        return Modifier.isStatic(member.getModifiers());
    }

    private static String plainText(String source) {
        return source.replaceAll("(?s)/\\*.*?\\*/", "").replaceAll("//[^\n]*", "");
    }

    private static void text(String plain) {
        for (String pattern : FORBIDDEN) {
            Matcher found = Pattern.compile(pattern).matcher(plain);
            must(!found.find(), "without " + pattern);
        }
        Matcher imported = Pattern.compile("import\\s+([\\w.*]+)").matcher(plain);
        while (imported.find()) {
            must(imported.group(1).equals("java.util.Arrays"), "only Arrays is imported");
        }
        lengths(plain);
    }

    /** A method of a class inside begins eight spaces in, one of the public class four. */
    private static void lengths(String plain) {
        String head = null;
        String end = "";
        int begin = 0;
        String[] lines = plain.split("\n");
        for (int i = 0; i < lines.length; i++) {
            Matcher method = Pattern.compile("^((?: {4}){1,2})[\\w ]*?\\w+\\([^;]*\\) \\{$").matcher(lines[i]);
            if (head == null && method.matches()) {
                head = lines[i].trim();
                end = method.group(1) + "}";
                begin = i;
            } else if (head != null && lines[i].equals(end)) {
                must(i - begin + 1 <= MOST_LINES, head + " is short");
                head = null;
            }
        }
        must(head == null, "methods were told apart");
    }
}
