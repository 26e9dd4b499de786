import java.io.IOException;
import java.lang.reflect.Array;
import java.lang.reflect.Constructor;
import java.lang.reflect.Field;
import java.lang.reflect.Method;
import java.lang.reflect.Modifier;
import java.nio.file.Files;
import java.nio.file.Path;
import java.util.ArrayList;
import java.util.Arrays;
import java.util.IdentityHashMap;
import java.util.List;
import java.util.Map;
import java.util.TreeMap;
import java.util.TreeSet;
import java.util.regex.Matcher;
import java.util.regex.Pattern;

/** The face of the document, and of the rules of LANGUAGE.md those that can be looked up in the source. */
public final class LanguageTest {
    private static final String FACE = "aim() alike() as(int,int) back() blank() by() can(int,int) child(int,int,int)"
        + " count(int) digest() fault() fewest() game(int,int) image() kinds() letters(long) longest() luck(int,int)"
        + " many() move(int,int) nth(int) reach(int) restore() stone(int,int) stones() ways()";

    private static void say(String rule, boolean holds) {
        Due.is(rule, holds ? 1 : 0, 1);
    }

    private static String signature(Method method) {
        StringBuilder text = new StringBuilder(method.getName()).append('(');
        for (Class<?> type : method.getParameterTypes()) {
            text.append(text.charAt(text.length() - 1) == '(' ? "" : ",").append(type.getSimpleName());
        }
        return text.append(')').toString();
    }

    private static void face() {
        Class<?> type = FrogsOnRing.class;
        say("public and final", Modifier.isPublic(type.getModifiers()) && Modifier.isFinal(type.getModifiers()));
        TreeSet<String> shown = new TreeSet<>();
        TreeSet<String> names = new TreeSet<>();
        for (Method method : type.getDeclaredMethods()) {
            if (Modifier.isPublic(method.getModifiers())) {
                shown.add(signature(method));
                names.add(method.getName());
                boolean isLong = method.getName().equals("ways") || method.getName().equals("digest");
                say(method + " answers the right type", method.getReturnType() == (isLong ? long.class : int.class));
            }
        }
        say("face: " + shown, String.join(" ", shown).equals(FACE));
        for (Method method : type.getDeclaredMethods()) {
            boolean isPrivate = Modifier.isPrivate(method.getModifiers());
            say(method + " is of the face or private", isPrivate != names.contains(method.getName()));
        }
        for (Class<?> inside : type.getDeclaredClasses()) {
            say(inside + " is static", Modifier.isStatic(inside.getModifiers()));
            for (Method method : inside.getDeclaredMethods()) {
                say(method + " has a name of its own", !names.contains(method.getName()));
            }
        }
        for (Field field : type.getDeclaredFields()) {
            int modifiers = field.getModifiers();
            boolean told = Arrays.asList("NONE", "UNKNOWN", "OUTSIDE", "STATE", "FULL").contains(field.getName());
            say(field + " is private or told", told ? Modifier.isPublic(modifiers) : Modifier.isPrivate(modifiers));
        }
        Constructor<?>[] constructors = type.getDeclaredConstructors();
        say("one constructor", constructors.length == 1 && Modifier.isPublic(constructors[0].getModifiers())
            && constructors[0].getParameterCount() == 0);
    }

    private static void words(String code) {
        String[] forbidden = {"throw", "throws", "try", "catch", "synchronized", "assert", "volatile", "native",
            "protected", "package", "Object", "System\\.(?!arraycopy\\()", "Exact", "->", "::", "float", "double",
            "while \\(true\\)", "for \\(;;\\)", "@Override"};
        for (String word : forbidden) {
            boolean isWord = Character.isLetter(word.charAt(0)) && word.matches("\\w+") && !word.equals("Exact");
            Matcher matcher = Pattern.compile(isWord ? "\\b" + word + "\\b" : word).matcher(code);
            say("no " + word, !matcher.find());
        }
        Matcher imports = Pattern.compile("import ([^;]+);").matcher(code);
        while (imports.find()) {
            say("import " + imports.group(1), imports.group(1).equals("java.util.Arrays"));
        }
        say("only signs 1 to 127", code.chars().allMatch(sign -> sign >= 1 && sign <= 127));
    }

    // Rows and parts are made with the object alone: no call makes anything.
    private static void makings(List<String> lines) {
        for (String line : lines) {
            if (line.contains("new ")) {
                say("made once: " + line, line.matches("        final (int|long)\\[] \\w+ = new \\1\\[\\w+];")
                    || line.matches("        \\w+ = new [A-Z]\\w+\\([a-z, ]*\\);"));
            }
        }
    }

    private static void lengths(List<String> lines) {
        Pattern head = Pattern.compile("( {4}| {8})(?:public |private |static )*\\w+(?:\\[])? \\w+\\((.*)\\) \\{");
        int methods = 0;
        for (int i = 0; i < lines.size(); i++) {
            Matcher matcher = head.matcher(lines.get(i));
            if (matcher.matches() && !matcher.group(0).contains(" if ") && !matcher.group(0).contains("switch")) {
                int end = i;
                while (!lines.get(end).equals(matcher.group(1) + "}")) {
                    end++;
                }
                methods++;
                say("short: " + lines.get(i), end - i < 60);
                say("seven parameters: " + lines.get(i), matcher.group(2).split(",").length <= 7);
            }
        }
        say("methods were found", methods > 80);
    }

    private static List<Class<?>> classes() {
        List<Class<?>> classes = new ArrayList<>();
        classes.add(FrogsOnRing.class);
        classes.addAll(Arrays.asList(FrogsOnRing.class.getDeclaredClasses()));
        return classes;
    }

    private static void fields() {
        say("at most twelve classes", classes().size() <= 12);
        for (Class<?> type : classes()) {
            int own = 0;
            for (Field field : type.getDeclaredFields()) {
                if (Modifier.isStatic(field.getModifiers())) {
                    boolean constant = field.getType() == int.class && Modifier.isFinal(field.getModifiers());
                    say(field + " is a constant", constant);
                } else {
                    own++;
                }
            }
            say(type + " has at most twenty fields", own <= 20);
        }
    }

    private static void library(String code) {
        List<String> used = Arrays.asList("System.arraycopy", "Arrays.fill", "Math.min", "Math.max", "Integer.bitCount");
        Matcher matcher = Pattern.compile("\\b(System|Arrays|Math|Integer|Long|String|Character)\\.\\w+").matcher(
            code.replaceAll("import [^;]+;", ""));
        while (matcher.find()) {
            say("of the library: " + matcher.group(), used.contains(matcher.group()));
        }
    }

    // By their names alone: methods of one name count as one, which can only make the calls deeper.
    private static Map<String, TreeSet<String>> callsByName(List<String> lines) {
        Map<String, TreeSet<String>> calls = new TreeMap<>();
        Pattern head = Pattern.compile("(?: {4}| {8})(?:public |private |static )*\\w+(?:\\[])? (\\w+)\\(.*\\) \\{");
        String name = "";
        for (String line : lines) {
            Matcher start = head.matcher(line);
            if (start.matches() && !line.contains(" if ")) {
                name = start.group(1);
                calls.putIfAbsent(name, new TreeSet<>());
                continue;
            }
            Matcher call = Pattern.compile("(?<!new )\\b([a-z]\\w*)\\(").matcher(line);
            while (!name.isEmpty() && call.find()) {
                calls.get(name).add(call.group(1));
            }
        }
        return calls;
    }

    private static int depthOf(String name, Map<String, TreeSet<String>> calls, int room) {
        int deepest = 0;
        if (room > 0) {
            for (String called : calls.getOrDefault(name, new TreeSet<>())) {
                deepest = calls.containsKey(called) ? Math.max(deepest, depthOf(called, calls, room - 1)) : deepest;
            }
        }
        return deepest + 1;
    }

    private static void depths(List<String> lines) {
        Map<String, TreeSet<String>> calls = callsByName(lines);
        say("calls were found", depthOf("digest", calls, 12) > 4);
        for (String name : calls.keySet()) {
            say(name + " calls at most eight deep, and never itself", depthOf(name, calls, 12) <= 8);
        }
    }

    private static long roomOf(Object thing, Map<Object, Boolean> seen) throws IllegalAccessException {
        if (thing == null || seen.put(thing, true) != null) {
            return 0;
        }
        if (thing.getClass().isArray()) {
            return Array.getLength(thing);
        }
        long room = 0;
        for (Field field : thing.getClass().getDeclaredFields()) {
            if (!Modifier.isStatic(field.getModifiers())) {
                room++;
                field.setAccessible(true);
                if (!field.getType().isPrimitive()) {
                    room += roomOf(field.get(thing), seen);
                }
            }
        }
        return room;
    }

    public static void main(String[] args) throws IOException, IllegalAccessException {
        String source = Files.readString(Path.of("src/main/java/FrogsOnRing.java"));
        String code = source.replaceAll("(?s)/\\*.*?\\*/", "").replaceAll("//[^\n]*", "");
        List<String> lines = new ArrayList<>(Arrays.asList(code.split("\n")));
        face();
        words(code);
        makings(lines);
        lengths(lines);
        fields();
        library(code);
        depths(lines);
        long room = roomOf(new FrogsOnRing(), new IdentityHashMap<>());
        say("room of an object: " + room, room < 60000);
        Due.end();
    }
}
