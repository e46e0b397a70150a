import java.io.IOException;
import java.lang.reflect.Constructor;
import java.lang.reflect.Field;
import java.lang.reflect.Method;
import java.lang.reflect.Modifier;
import java.nio.file.Files;
import java.nio.file.Path;
import java.util.ArrayDeque;
import java.util.ArrayList;
import java.util.Deque;
import java.util.HashMap;
import java.util.List;
import java.util.Map;
import java.util.Set;
import java.util.TreeSet;
import java.util.regex.Matcher;
import java.util.regex.Pattern;

/** The public face of the document, and those rules of LANGUAGE.md that can be seen from outside or in the text. */
public final class LanguageTest {
    private static final Set<String> KEYWORDS = Set.of("if", "for", "while", "switch", "return", "do", "else", "case");

    public static void main(String[] args) throws IOException {
        face();
        fields();
        String text = Files.readString(Path.of("src/main/java/LaneDesk.java"));
        text = text.replaceAll("(?s)/\\*.*?\\*/", "").replaceAll("//[^\n]*", "");
        words(text);
        callsInArguments(text);
        methods(text);
        Bench.end();
    }

    private static void face() {
        Set<String> members = new TreeSet<>();
        for (Method method : LaneDesk.class.getDeclaredMethods()) {
            boolean hidden = Modifier.isPrivate(method.getModifiers());
            if (!hidden) {
                members.add(method.toString());
            }
        }
        for (Constructor<?> maker : LaneDesk.class.getDeclaredConstructors()) {
            members.add(maker.toString());
        }
        for (Field field : LaneDesk.class.getDeclaredFields()) {
            if (!Modifier.isPrivate(field.getModifiers())) {
                members.add(field.toString());
            }
        }
        Set<String> want = new TreeSet<>(List.of("public LaneDesk()",
                "public static final int LaneDesk.BAD", "public static final int LaneDesk.FULL",
                "public static final int LaneDesk.DONE", "public static final int LaneDesk.LONG",
                "public int LaneDesk.add(int,int,int,int)", "public int LaneDesk.wipe()", "public int LaneDesk.check()",
                "public int LaneDesk.place()", "public int LaneDesk.lanes(int,int)", "public int LaneDesk.varied(int)",
                "public int LaneDesk.shorter(int,int)", "public boolean LaneDesk.input(int,int,int)",
                "public int LaneDesk.run(boolean)", "public int LaneDesk.out(int,int)", "public int LaneDesk.kept(int,int)",
                "public int LaneDesk.state(int)"));
        Bench.dueRow("the face", members.toString(), want.toString());
        Bench.due("the class is public and final", LaneDesk.class.getModifiers(), Modifier.PUBLIC | Modifier.FINAL);
        Bench.due("nested classes", LaneDesk.class.getDeclaredClasses().length, 0);
    }

    private static void fields() {
        int own = 0;
        for (Field field : LaneDesk.class.getDeclaredFields()) {
            Class<?> type = field.getType();
            Class<?> plain = type.isArray() ? type.getComponentType() : type;
            boolean fine = plain.isPrimitive() && plain != float.class && plain != double.class;
            Bench.due("the type of " + field, fine, true);
            if (Modifier.isStatic(field.getModifiers())) {
                boolean constant = Modifier.isFinal(field.getModifiers()) && (type == int.class || type == long.class);
                Bench.due("static " + field, constant, true);
            } else {
                own++;
            }
        }
        Bench.due("at most some forty fields", own <= 40, true);
    }

    private static void words(String text) {
        Pattern outside = Pattern.compile("\\b(import|package|throw|throws|try|catch|synchronized|assert|instanceof|null|float"
                + "|double|String|Object|Math|Integer|Long|System|Arrays|var|class \\w+ \\w+)\\b|->|::|\\[\\]\\[");
        Matcher found = outside.matcher(text);
        while (found.find()) {
            Bench.due("the word " + found.group(), 1, 0);
        }
        for (String line : text.split("\n")) {
            boolean made = line.matches("    private final (int|boolean)\\[\\] \\w+ = new (int|boolean)\\[[A-Z_]+\\];");
            if (line.matches(".*\\bnew\\b.*") && !made) {
                Bench.due("new in: " + line, 1, 0);
            }
        }
    }

    private static void callsInArguments(String text) {
        Deque<Boolean> open = new ArrayDeque<>();
        Matcher parts = Pattern.compile("\\b([A-Za-z]\\w*)\\s*\\(|\\(|\\)").matcher(text);
        while (parts.find()) {
            if (parts.group().equals(")")) {
                open.pop();
                continue;
            }
            String name = parts.group(1);
            boolean call = name != null && !KEYWORDS.contains(name);
            if (call && open.contains(true)) {
                Bench.due("a call inside the arguments of another one: " + name, 1, 0);
            }
            open.push(call);
        }
    }

    private static void methods(String text) {
        Map<String, Set<String>> calls = new HashMap<>();
        List<String> names = new ArrayList<>();
        Matcher heads = Pattern.compile("(?m)^    (?:public|private) (?:static )?(?:int|boolean|void) (\\w+)\\(([^)]*)\\) \\{\n").matcher(text);
        while (heads.find()) {
            String name = heads.group(1);
            Bench.due("a second method " + name, names.contains(name), false);
            names.add(name);
            String body = text.substring(heads.end(), text.indexOf("\n    }", heads.end()) + 1);
            Bench.due("lines of " + name + " are at most sixty", body.split("\n").length + 2 <= 60, true);
            Bench.due("parameters of " + name + " are at most seven", heads.group(2).split(",").length <= 7, true);
            Set<String> called = new TreeSet<>();
            Matcher uses = Pattern.compile("\\b([A-Za-z]\\w*)\\(").matcher(body);
            while (uses.find()) {
                called.add(uses.group(1));
            }
            calls.put(name, called);
        }
        Bench.due("methods were found", names.size() > 20, true);
        for (String name : names) {
            int deep = deep(name, calls, 0);
            Bench.due("calls from " + name + " go at most six deep: " + deep, deep <= 6, true);
        }
    }

    /** How many methods stand one below another from here; far too many if one comes back to itself. */
    private static int deep(String name, Map<String, Set<String>> calls, int above) {
        if (!calls.containsKey(name)) {
            return 0;
        }
        int most = 0;
        for (String called : calls.get(name)) {
            most = Math.max(most, above > 50 ? 50 : deep(called, calls, above + 1));
        }
        return most + 1;
    }
}
