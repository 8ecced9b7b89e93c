import java.io.IOException;
import java.lang.reflect.Constructor;
import java.lang.reflect.Field;
import java.lang.reflect.Method;
import java.lang.reflect.Modifier;
import java.nio.file.Files;
import java.nio.file.Path;
import java.util.ArrayList;
import java.util.Collections;
import java.util.List;
import java.util.Map;
import java.util.Set;
import java.util.TreeMap;
import java.util.TreeSet;
import java.util.regex.Matcher;
import java.util.regex.Pattern;

/** The public face, and those rules of LANGUAGE.md that can be seen without reading the program. */
public final class FaceTest {
    private static final String[] METHODS = {
        "int make(int, int)",
        "int copy(int, int, int)",
        "int restrict(int, int, int)",
        "int close(int, int)",
        "int signal(int, int, int, boolean)",
        "int send(int, int, int, int, int)",
        "int receive(int, int)",
        "int got(int, int)",
        "long load(int, int, int)",
        "int store(int, int, int, int)",
        "int twin(int, int)",
        "int watch(int, int, int, int, int)",
        "long packet(int, int, int)",
        "int spawn(int, int)",
        "int kill(int, int)",
        "int info(int, int, int)",
    };
    private static final String[] CONSTANTS = {
        "OK", "NO_PROCESS", "BAD_HANDLE", "WRONG_KIND", "NO_RIGHT", "FULL", "NO_ROOM", "CLOSED", "EMPTY", "BAD_VALUE",
    };
    private static final String[] BANNED = {
        "import", "package", "null", "throw", "throws", "try", "catch", "finally", "synchronized", "assert", "instanceof",
        "float", "double", "String", "Object", "Math", "Integer", "Long", "System", "Arrays", "enum", "interface",
        "record", "var", "super", "toString", "equals", "hashCode", "getClass", "clone",
    };

    public static void main(String[] args) throws IOException {
        face();
        fields();
        source(Files.readString(Path.of("src/main/java/HandleKernel.java")));
        Check.end();
    }

    private static void face() {
        Check.part("the public face");
        Class<?> c = HandleKernel.class;
        Check.holds(c.getModifiers() == (Modifier.PUBLIC | Modifier.FINAL), "the class is not public final");
        Constructor<?>[] constructors = c.getDeclaredConstructors();
        Check.due(constructors.length, 1);
        Check.due(constructors[0].getParameterCount(), 0);
        Check.due(constructors[0].getModifiers(), Modifier.PUBLIC);
        List<String> open = new ArrayList<>();
        Set<String> openNames = new TreeSet<>();
        Set<String> closedNames = new TreeSet<>();
        for (Method method : c.getDeclaredMethods()) {
            Check.holds(method.getParameterCount() <= 7, method + " has too many parameters");
            if (Modifier.isPrivate(method.getModifiers())) {
                closedNames.add(method.getName());
            } else {
                Check.holds(method.getModifiers() == Modifier.PUBLIC, method + " is not plainly public");
                open.add(shape(method));
                openNames.add(method.getName());
            }
        }
        List<String> due = new ArrayList<>(List.of(METHODS));
        Collections.sort(due);
        Collections.sort(open);
        Check.holds(open.equals(due), "the public methods are " + open);
        closedNames.retainAll(openNames);
        Check.holds(closedNames.isEmpty(), "private methods with names of public ones: " + closedNames);
        Check.due(c.getDeclaredClasses().length, 0);
    }

    private static String shape(Method method) {
        List<String> parameters = new ArrayList<>();
        for (Class<?> parameter : method.getParameterTypes()) {
            parameters.add(parameter.getName());
        }
        return method.getReturnType().getName() + " " + method.getName() + "(" + String.join(", ", parameters) + ")";
    }

    private static void fields() {
        Check.part("the constants and fields");
        int held = 0;
        Set<String> open = new TreeSet<>();
        for (Field field : HandleKernel.class.getDeclaredFields()) {
            int modifiers = field.getModifiers();
            Class<?> type = field.getType();
            if (Modifier.isStatic(modifiers)) {
                Check.holds(Modifier.isFinal(modifiers), field + " is static and not final");
                Check.holds(type == int.class || type == long.class, field + " is static and not an int or a long");
            } else {
                held++;
                Check.holds(type.isPrimitive() || type.getComponentType().isPrimitive(), field + " is of another type");
            }
            if (!Modifier.isPrivate(modifiers)) {
                Check.due(modifiers, Modifier.PUBLIC | Modifier.STATIC | Modifier.FINAL);
                open.add(field.getName());
            }
        }
        Check.holds(held <= 40, "there are " + held + " fields");
        Check.holds(open.equals(new TreeSet<>(List.of(CONSTANTS))), "the public fields are " + open);
        int[] values = {
            HandleKernel.OK, HandleKernel.NO_PROCESS, HandleKernel.BAD_HANDLE, HandleKernel.WRONG_KIND, HandleKernel.NO_RIGHT,
            HandleKernel.FULL, HandleKernel.NO_ROOM, HandleKernel.CLOSED, HandleKernel.EMPTY, HandleKernel.BAD_VALUE,
        };
        for (int i = 0; i < values.length; i++) {
            Check.due(values[i], -i);
        }
    }

    private static void source(String text) {
        Check.part("the rules of the language");
        String code = text.replaceAll("//[^\n]*", "").replaceAll("(?s)/\\*.*?\\*/", "");
        for (String word : BANNED) {
            Check.holds(!Pattern.compile("\\b" + word + "\\b").matcher(code).find(), "the program says " + word);
        }
        Check.holds(!code.contains("\""), "the program has a text");
        Check.holds(!code.contains("->") && !code.contains("::"), "the program has a lambda or a method reference");
        Matcher makes = Pattern.compile("[^\n]*\\bnew\\b[^\n]*").matcher(code);
        while (makes.find()) {
            boolean field = makes.group().matches("    private final (int|boolean)\\[\\] \\w+ = new (int|boolean)\\[[A-Z_]+\\];");
            Check.holds(field, "something is made outside a field's initialiser: " + makes.group());
        }
        Check.holds(!Pattern.compile("\\w\\([^();{}]*\\w\\(").matcher(calls(code)).find(), "a call stands inside the arguments of a call");
        methodLengths(code);
        depths(code);
    }

    /** Takes away what looks like a call and is none. */
    private static String calls(String code) {
        return code.replaceAll("\\b(if|for|while|switch|return)\\b *\\(", "{");
    }

    private static void methodLengths(String code) {
        int start = 0;
        String[] lines = code.split("\n");
        for (int i = 0; i < lines.length; i++) {
            if (lines[i].matches("    (public|private) .*\\{")) {
                start = i;
            }
            if (lines[i].equals("    }")) {
                Check.holds(i - start < 60, "too long a method: " + lines[start]);
            }
        }
    }

    private static void depths(String code) {
        Map<String, Set<String>> called = callGraph(code);
        Check.holds(called.size() > METHODS.length, "the methods were not found");
        for (String method : called.keySet()) {
            int deep = depth(called, method, 1);
            Check.holds(deep <= 6, "calls go " + deep + " deep, or in a circle, from " + method);
        }
    }

    /** Each method, and the constructor, with the methods of the class that it calls. */
    private static Map<String, Set<String>> callGraph(String code) {
        Map<String, String> bodies = new TreeMap<>();
        Matcher method = Pattern.compile("(?s)\n    (?:public|private) (?:\\w+ )?(\\w+)\\([^)]*\\) \\{(.*?)\n    \\}").matcher(code);
        while (method.find()) {
            bodies.put(method.group(1), method.group(2));
        }
        Map<String, Set<String>> called = new TreeMap<>();
        for (String name : bodies.keySet()) {
            Set<String> names = new TreeSet<>();
            Matcher call = Pattern.compile("\\b(\\w+)\\(").matcher(bodies.get(name));
            while (call.find()) {
                names.add(call.group(1));
            }
            names.retainAll(bodies.keySet());
            called.put(name, names);
        }
        return called;
    }

    /** A circle would go on for ever, so it is enough to know that a depth is too great. */
    private static int depth(Map<String, Set<String>> called, String method, int above) {
        int deepest = above;
        if (above <= 6) {
            for (String next : called.get(method)) {
                deepest = Math.max(deepest, depth(called, next, above + 1));
            }
        }
        return deepest;
    }
}
