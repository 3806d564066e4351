import java.lang.reflect.Constructor;
import java.lang.reflect.Field;
import java.lang.reflect.Method;
import java.lang.reflect.Modifier;
import java.nio.file.Files;
import java.nio.file.Path;
import java.util.HashMap;
import java.util.List;
import java.util.Map;
import java.util.Set;
import java.util.TreeSet;
import java.util.regex.Matcher;
import java.util.regex.Pattern;

/** The public face of the document, and those rules of LANGUAGE.md that can be told from the class and its text. */
public final class LanguageTest {
    private static final Path SOURCE = Path.of("src/main/java/RationalDesk.java");
    private static final Set<Class<?>> NUMBERS =
        Set.of(int.class, long.class, short.class, byte.class, char.class, boolean.class);
    private static final Set<String> KEYWORDS = Set.of("if", "for", "while", "switch", "return", "else", "do");
    private static final String FACE = "clear(int):boolean degree(int,int):int evaluate():int factor(int,int,int,int):int "
        + "factorDegree(int,int,int):int factors(int,int):int fraction(int,int,int,int):int number(int,int,int):int "
        + "place():int power(int,int,int):int store(int):boolean token(int,int):boolean value(int,int):int wipe():int";
    private static int wrong = 0;

    public static void main(String[] args) throws Exception {
        checkFace();
        checkFields();
        String text = Files.readString(SOURCE);
        text = text.replaceAll("(?s)/\\*.*?\\*/", "").replaceAll("//[^\n]*", "");
        checkWords(text);
        checkCalls(text);
        System.out.println(wrong == 0 ? "the class keeps to its language" : wrong + " wrong");
        if (wrong != 0) {
            System.exit(1);
        }
    }

    private static void must(boolean holds, String what) {
        if (!holds) {
            wrong++;
            System.out.println(what);
        }
    }

    private static void checkFace() {
        Class<RationalDesk> desk = RationalDesk.class;
        must(Modifier.isPublic(desk.getModifiers()) && Modifier.isFinal(desk.getModifiers()), "public final");
        must(desk.getDeclaredClasses().length == 0 && desk.getInterfaces().length == 0, "one class");
        must(desk.getSuperclass() == Object.class, "no superclass");
        Constructor<?>[] constructors = desk.getDeclaredConstructors();
        must(constructors.length == 1 && Modifier.isPublic(constructors[0].getModifiers())
            && constructors[0].getParameterCount() == 0, "one public constructor");
        Set<String> face = new TreeSet<>();
        Set<String> publicNames = new TreeSet<>();
        for (Method method : desk.getDeclaredMethods()) {
            if (Modifier.isPublic(method.getModifiers())) {
                must(!Modifier.isStatic(method.getModifiers()), method + " is static");
                StringBuilder parameters = new StringBuilder();
                for (Class<?> type : method.getParameterTypes()) {
                    parameters.append(parameters.length() == 0 ? "" : ",").append(type);
                }
                face.add(method.getName() + "(" + parameters + "):" + method.getReturnType());
                publicNames.add(method.getName());
            }
        }
        must(String.join(" ", face).equals(FACE), "the face is " + face);
        for (Method method : desk.getDeclaredMethods()) {
            boolean isPublic = Modifier.isPublic(method.getModifiers());
            must(isPublic || Modifier.isPrivate(method.getModifiers()), method + " is neither public nor private");
            must(isPublic || !publicNames.contains(method.getName()), method + " bears a public name");
            must(method.getParameterCount() <= 7, method + " has too many parameters");
            Class<?> answer = method.getReturnType();
            must(answer == void.class || NUMBERS.contains(answer), method + " answers no number");
        }
    }

    private static void checkFields() {
        int count = 0;
        Set<String> constants = new TreeSet<>();
        for (Field field : RationalDesk.class.getDeclaredFields()) {
            int modifiers = field.getModifiers();
            Class<?> type = field.getType();
            if (Modifier.isStatic(modifiers)) {
                must(Modifier.isFinal(modifiers) && (type == int.class || type == long.class), field + " is no constant");
                if (Modifier.isPublic(modifiers)) {
                    constants.add(field.getName());
                }
            } else {
                count++;
                must(Modifier.isPrivate(modifiers), field + " is not private");
                must(NUMBERS.contains(type) || type.isArray() && NUMBERS.contains(type.getComponentType()), "type of " + field);
                must(!type.isArray() || Modifier.isFinal(modifiers), field + " could be assigned");
            }
            must(Modifier.isPublic(modifiers) || Modifier.isPrivate(modifiers), field + " is package-visible");
        }
        must(count <= 40, count + " fields");
        must(constants.equals(Set.of("OK", "SYNTAX", "EMPTY", "ZERO", "TOO_LARGE", "POLE")), "constants " + constants);
        int[] values = {RationalDesk.OK, RationalDesk.SYNTAX, RationalDesk.EMPTY, RationalDesk.ZERO,
            RationalDesk.TOO_LARGE, RationalDesk.POLE};
        for (int i = 0; i < values.length; i++) {
            must(values[i] == i, "constant " + i + " is " + values[i]);
        }
    }

    private static void checkWords(String text) {
        List<String> ruledOut = List.of("\\bimport\\b", "\\bpackage\\b", "\\bString\\b", "\\bMath\\b", "\\bInteger\\b",
            "\\bSystem\\b", "\\bArrays\\b", "\\bfloat\\b", "\\bdouble\\b", "\\bthrows?\\b", "\\btry\\b", "\\bcatch\\b",
            "\\bsynchronized\\b", "\\bassert\\b", "\\binstanceof\\b", "\\bnull\\b", "->", "::", "\"", "@", "\\bvar\\b",
            "\\bstatic\\s*\\{", "\\]\\s*\\[", "\\.(?!\\d)");
        for (String word : ruledOut) {
            must(!Pattern.compile(word).matcher(text).find(), "the text has " + word);
        }
        for (String line : text.split("\n")) {
            if (line.contains("new ")) {
                must(line.matches("    private final (int|boolean)\\[\\] \\w+ = new \\1\\[[A-Z_]+\\];"), "made in: " + line);
            }
        }
    }

    /** No recursion, at most six calls deep, no call in the arguments of a call, no method above sixty lines. */
    private static void checkCalls(String text) {
        Pattern head = Pattern.compile("(?m)^    (?:public|private)(?: static)? \\w+ (\\w+)\\([^)]*\\) \\{\n((?s:.*?))^    \\}");
        Map<String, String> bodies = new HashMap<>();
        Matcher method = head.matcher(text);
        while (method.find()) {
            must(bodies.put(method.group(1), method.group(2)) == null, method.group(1) + " is there twice");
            must(method.group(2).split("\n").length <= 60, method.group(1) + " is long");
        }
        must(bodies.size() == RationalDesk.class.getDeclaredMethods().length, "methods read: " + bodies.size());
        Map<String, Set<String>> calls = new HashMap<>();
        for (Map.Entry<String, String> body : bodies.entrySet()) {
            calls.put(body.getKey(), calledIn(body.getKey(), body.getValue()));
        }
        for (String name : bodies.keySet()) {
            must(depth(name, calls, 0) <= 6, name + " goes too deep");
        }
    }

    private static Set<String> calledIn(String name, String body) {
        Set<String> called = new TreeSet<>();
        Matcher call = Pattern.compile("\\b(\\w+)\\s*\\(").matcher(body);
        while (call.find()) {
            if (KEYWORDS.contains(call.group(1))) {
                continue;
            }
            called.add(call.group(1));
            int open = 1;
            int end = call.end();
            while (open > 0) {
                char c = body.charAt(end++);
                open += c == '(' ? 1 : c == ')' ? -1 : 0;
            }
            String arguments = body.substring(call.end(), end - 1);
            must(!arguments.matches("(?s).*\\w\\s*\\(.*"), name + " has a call inside of " + call.group(1));
        }
        return called;
    }

    private static int depth(String name, Map<String, Set<String>> calls, int above) {
        if (above > 20) {
            return 100;
        }
        int deepest = 0;
        for (String called : calls.getOrDefault(name, Set.of())) {
            must(calls.containsKey(called), name + " calls " + called + ", which is not of the class");
            deepest = Math.max(deepest, depth(called, calls, above + 1));
        }
        return deepest + 1;
    }
}
