import java.lang.reflect.Method;
import java.lang.reflect.Modifier;
import java.nio.charset.StandardCharsets;
import java.nio.file.Files;
import java.nio.file.Path;
import java.util.HashMap;
import java.util.Map;
import java.util.regex.Matcher;
import java.util.regex.Pattern;

/** README.md, named by luckshoes.readme: its example answers what it says, its tables leave nothing out. */
public final class LuckShoesReadme {
    private static final Pattern CALL = Pattern.compile("shoes\\.(\\w+)\\(([^;]*)\\); *// (-?\\d+)(?: \\((\\w+)\\))?(?::.*)?");
    private static final String MADE = "LuckShoes shoes = new LuckShoes();";
    private static int wrong = 0;

    private static void look(boolean right, String what) {
        if (!right) {
            wrong++;
            System.out.println("not as it should be: " + what);
        }
    }

    private static Map<String, Method> face() {
        Map<String, Method> face = new HashMap<>();
        for (Method method : LuckShoes.class.getDeclaredMethods()) {
            if (Modifier.isPublic(method.getModifiers())) {
                face.put(method.getName(), method);
            }
        }
        return face;
    }

    /** A number, or a sign in quotes. */
    private static long number(String text) {
        return text.startsWith("'") ? text.charAt(1) : Long.parseLong(text);
    }

    private static long answer(LuckShoes shoes, Method method, String told) throws ReflectiveOperationException {
        String[] texts = told.isEmpty() ? new String[0] : told.split(", ");
        Object[] arguments = new Object[texts.length];
        for (int i = 0; i < texts.length; i++) {
            long number = number(texts[i]);
            arguments[i] = method.getParameterTypes()[i] == long.class ? (Object) number : (Object) (int) number;
        }
        return ((Number) method.invoke(shoes, arguments)).longValue();
    }

    private static int example(String code, Map<String, Method> face) throws ReflectiveOperationException {
        LuckShoes shoes = null;
        int calls = 0;
        for (String line : code.split("\n")) {
            if (line.equals(MADE)) {
                shoes = new LuckShoes();
            } else if (!line.isEmpty() && !line.startsWith("//")) {
                Matcher call = CALL.matcher(line);
                boolean read = call.matches() && shoes != null && face.containsKey(call.group(1));
                look(read, "can't be read: " + line);
                if (read) {
                    long got = answer(shoes, face.get(call.group(1)), call.group(2));
                    look(got == Long.parseLong(call.group(3)), line + " answered " + got);
                    look(call.group(4) == null || got == LuckShoes.class.getField(call.group(4)).getInt(null), line);
                    calls++;
                }
            }
        }
        return calls;
    }

    private static String part(String text, String head) {
        int from = text.indexOf("\n## " + head + "\n");
        look(from >= 0, "no part " + head);
        int to = from < 0 ? -1 : text.indexOf("\n## ", from + 1);
        return from < 0 ? "" : text.substring(from, to < 0 ? text.length() : to);
    }

    public static void main(String[] args) throws Exception {
        Path file = Path.of(System.getProperty("luckshoes.readme", "README.md"));
        String text = Files.readString(file, StandardCharsets.UTF_8);
        Map<String, Method> face = face();
        int calls = 0;
        Matcher code = Pattern.compile("(?s)```java\n(.*?)```").matcher(part(text, "Use"));
        while (code.find()) {
            calls += example(code.group(1), face);
        }
        look(calls >= 50 && calls <= 512, calls + " calls in the example");
        String table = part(text, "Calls");
        for (Method method : face.values()) {
            Matcher row = Pattern.compile("`" + method.getName() + "\\(([^)`]*)\\)`").matcher(table);
            boolean there = row.find();
            look(there, "no row tells of " + method);
            int told = !there || row.group(1).isEmpty() ? 0 : row.group(1).split(", ").length;
            look(!there || told == method.getParameterCount(), "arguments of " + method);
        }
        String refusals = part(text, "Refusals");
        for (String name : new String[] {"BAD", "NOT", "FULL", "STATE", "VOID"}) {
            String row = "| " + LuckShoes.class.getField(name).getInt(null) + " | `" + name + "` |";
            look(refusals.contains(row), "no row " + row);
        }
        for (String row : new String[] {"| -11 |", "| -12 |", "| -13 |", "| -14 |", "| `Long.MIN_VALUE` |"}) {
            look(refusals.contains(row), "no row " + row);
        }
        look(part(text, "Tests").contains("```sh\n.ci/run\n```"), "the one command that runs all tests");
        System.out.println(calls + " calls of the README, " + wrong + " wrong");
        if (wrong != 0) {
            System.exit(1);
        }
    }
}
