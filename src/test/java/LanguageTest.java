import java.io.IOException;
import java.lang.reflect.Constructor;
import java.lang.reflect.Field;
import java.lang.reflect.Method;
import java.lang.reflect.Modifier;
import java.nio.charset.StandardCharsets;
import java.nio.file.Files;
import java.nio.file.Path;
import java.util.Arrays;
import java.util.HashMap;
import java.util.HashSet;
import java.util.List;
import java.util.Map;
import java.util.Set;
import java.util.TreeSet;
import java.util.regex.Matcher;
import java.util.regex.Pattern;

/** What can be looked up of ../shared/LANGUAGE.md: the face, the classes inside, banned words, sizes. */
public final class LanguageTest {
    private static final Check CHECK = new Check("LanguageTest");
    private static final Path SOURCE = Path.of("src/main/java/JigsawHole.java");
    private static final String FACE = "back(int) border(int,int) ask(int) called(int,int,int) cell(int,int,int) clash(int,int)"
        + " count(int) days(int) empire() far(int,int,int,int) feed(int,int,int,int,int) forget() free() hold(int) homes(int)"
        + " joined(int,int) knob(int,int,int) land(int,int) lay(int,int) liesIn(int) loose() missing(int)"
        + " more(int,int,int,int) most() place() press(int,int,int,int) read() restore(int) richest(int) spare(int,int,int)"
        + " spares(int,int,int) stays(int,int) step(int,int,int) sure(int) take(int,int) taxIn(int) tell(int,int) undo()"
        + " wetter() year(int,int,int,int,int,int)";
    private static final List<String> TRUTHS = List.of("lay", "take", "press", "undo", "hold", "restore");
    private static final String[] BANNED = {"\\bthrow", "\\btry\\b", "\\bcatch\\b", "\\bsynchronized\\b", "\\bassert\\b", "->",
        "::", "static\\s*\\{", "Exact\\b", "\\bimport (?!java\\.util\\.Arrays;)", "\\bpackage\\b", "while \\(true\\)", "for \\(;;",
        "\\bSystem\\.(?!arraycopy)", "\\bRandom\\b", "\\bThread\\b", "\\bObject\\b", "\\bequals\\b", "\\bhashCode\\b",
        "\\btoString\\b", "\\bInteger\\.(?!bitCount|MAX_VALUE|MIN_VALUE)", "\\bMath\\.(?!max|min)", "\\bArrays\\.(?!fill)"};

    /** Rows are made in constructors alone: all calls of a run share one room. */
    private static final String MADE_ONCE = " +(private final .* = new .*;|(done|slots)\\[i\\] = new State\\(\\);)";
    private static final Map<String, String> OTHER_NAMES = Map.of("now", "State", "would", "State", "draft", "Table",
        "done", "State", "slots", "State");

    public static void main(String[] args) throws IOException {
        face();
        inside();
        source();
        chains();
        CHECK.end();
    }

    private static void is(String what, boolean good) {
        CHECK.due(what, true, good);
    }

    private static void face() {
        Class<?> hole = JigsawHole.class;
        is("the class is public and final", Modifier.isPublic(hole.getModifiers()) && Modifier.isFinal(hole.getModifiers()));
        Set<String> seen = new TreeSet<>();
        Set<String> names = new HashSet<>();
        for (Method method : hole.getDeclaredMethods()) {
            if (method.isSynthetic()) {
                continue;
            }
            boolean open = Modifier.isPublic(method.getModifiers());
            is(method + " is public or private", open || Modifier.isPrivate(method.getModifiers()));
            if (open) {
                StringBuilder told = new StringBuilder(method.getName()).append('(');
                for (Class<?> type : method.getParameterTypes()) {
                    told.append(told.charAt(told.length() - 1) == '(' ? "" : ",").append(type.getName());
                }
                seen.add(told.append(')').toString());
                names.add(method.getName());
                is(method + " tells what is due", method.getReturnType() == (TRUTHS.contains(method.getName()) ? boolean.class : int.class));
            }
        }
        is("the face", seen.equals(new TreeSet<>(Arrays.asList(FACE.split(" ")))));
        for (Method method : hole.getDeclaredMethods()) {
            is(method + " bears no public one's name", Modifier.isPublic(method.getModifiers()) || !names.contains(method.getName()));
        }
        for (Class<?> one : hole.getDeclaredClasses()) {
            for (Method method : one.getDeclaredMethods()) {
                is(method + " bears no public one's name", !names.contains(method.getName()));
            }
        }
        for (Constructor<?> constructor : hole.getDeclaredConstructors()) {
            is("the constructor", Modifier.isPublic(constructor.getModifiers()) && constructor.getParameterCount() == 0);
        }
        for (Field field : hole.getDeclaredFields()) {
            is(field + " is private", field.getName().equals("NONE") || Modifier.isPrivate(field.getModifiers()));
        }
    }

    private static void inside() {
        Class<?>[] classes = JigsawHole.class.getDeclaredClasses();
        is("some twelve classes", classes.length + 1 <= 12);
        for (Class<?> one : classes) {
            is(one + " is static and not public", Modifier.isStatic(one.getModifiers()) && !Modifier.isPublic(one.getModifiers()));
            fields(one);
        }
        fields(JigsawHole.class);
    }

    private static void fields(Class<?> one) {
        int own = 0;
        Set<Class<?>> constants = Set.of(int.class, long.class, boolean.class, char.class, String.class, int[].class);
        for (Field field : one.getDeclaredFields()) {
            if (Modifier.isStatic(field.getModifiers())) {
                is(field + " is a constant", Modifier.isFinal(field.getModifiers()) && constants.contains(field.getType()));
            } else {
                own++;
            }
        }
        is(one + " has some twenty fields", own <= 20);
        for (Method method : one.getDeclaredMethods()) {
            is(method + " takes at most seven", method.getParameterCount() <= 7);
        }
    }

    private static void source() throws IOException {
        String text = Files.readString(SOURCE, StandardCharsets.ISO_8859_1);
        String code = text.replaceAll("(?m)//.*$", "").replaceAll("(?s)/\\*.*?\\*/", "");
        for (String word : BANNED) {
            Matcher matcher = Pattern.compile(word).matcher(code);
            is("no " + word, !matcher.find());
        }
        is("signs up to 127", text.chars().allMatch(c -> c < 127));
        for (String line : code.split("\n")) {
            is("made with its object: " + line.trim(), !line.contains("new ") || line.matches(MADE_ONCE));
        }
        int begun = -1;
        String[] lines = text.split("\n");
        for (int i = 0; i < lines.length; i++) {
            if (lines[i].matches(" {4}( {4})?[a-zA-Z].*\\) \\{")) {
                begun = i;
            } else if (begun >= 0 && lines[i].matches(" {4}( {4})?\\}")) {
                is("short: " + lines[begun].trim(), i - begun <= 60);
                begun = -1;
            }
        }
    }

    /** Calls that stand open at once, a recursion counted once: at most eight, by what each method's lines name. */
    private static void chains() throws IOException {
        Map<String, Set<String>> calls = new HashMap<>();
        String inside = "JigsawHole";
        String method = "";
        for (String line : Files.readAllLines(SOURCE, StandardCharsets.ISO_8859_1)) {
            Matcher head = Pattern.compile(" {4}( {4})?(?! )[^=(]*?(\\w+)\\([^()]*\\) \\{").matcher(line);
            Matcher part = Pattern.compile(" {4}private static final class (\\w+) \\{").matcher(line);
            if (part.matches()) {
                inside = part.group(1);
            } else if (head.matches() && !line.matches(" +(if|for|while|switch) .*")) {
                method = inside + "." + head.group(2);
                calls.putIfAbsent(method, new HashSet<>());
            } else if (!method.isEmpty()) {
                addCalls(line, inside, calls.get(method));
            }
        }
        is("methods are found", calls.size() > 120);
        int longest = 0;
        for (String one : calls.keySet()) {
            longest = Math.max(longest, longestFrom(one, calls, new HashSet<>()));
        }
        is("calls go at most eight deep: " + longest, longest <= 8 && longest > 4);
    }

    /** A receiver bears its class's name, but for those of OTHER_NAMES; one that is none of them is of the library. */
    private static void addCalls(String line, String inside, Set<String> called) {
        Matcher matcher = Pattern.compile("(?:(\\w+)(?:\\[\\w+\\])?\\.)?\\b(\\w+)\\(").matcher(line);
        while (matcher.find()) {
            String receiver = matcher.group(1);
            if (receiver == null) {
                called.add(inside + "." + matcher.group(2));
                called.add("JigsawHole." + matcher.group(2));
            } else {
                String name = OTHER_NAMES.getOrDefault(receiver, receiver);
                called.add(Character.toUpperCase(name.charAt(0)) + name.substring(1) + "." + matcher.group(2));
            }
        }
    }

    private static int longestFrom(String method, Map<String, Set<String>> calls, Set<String> open) {
        if (!calls.containsKey(method) || !open.add(method)) {
            return 0;
        }
        int longest = 0;
        for (String one : calls.get(method)) {
            longest = Math.max(longest, longestFrom(one, calls, open));
        }
        open.remove(method);
        return longest + 1;
    }
}
