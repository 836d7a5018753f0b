import java.io.IOException;
import java.nio.charset.StandardCharsets;
import java.nio.file.Files;
import java.nio.file.Path;
import java.util.ArrayList;
import java.util.Arrays;
import java.util.HashMap;
import java.util.HashSet;
import java.util.List;
import java.util.Map;
import java.util.Set;
import java.util.TreeMap;
import java.util.TreeSet;
import java.util.regex.Matcher;
import java.util.regex.Pattern;

/** The source against what of LANGUAGE.md can be searched for; the file is named by luckshoes.source. */
public final class LuckShoesRules {
    private static final Pattern METHOD = Pattern.compile(
        "\\n[ ]+(?:public |private |static |final )*(?:int|long|boolean|void|[A-Z]\\w*)(?:\\[\\])* (\\w+)\\(([^)]*)\\) \\{");
    private static final Pattern CALL = Pattern.compile("(\\w+)\\(");
    private static final Set<String> NO_CALLS = new HashSet<>(Arrays.asList("if", "for", "while", "switch", "return"));
    private static final Set<String> LIBRARY = new HashSet<>(Arrays.asList("min", "max", "arraycopy", "fill"));
    private static int wrong = 0;

    private static void look(boolean right, int rule, String what) {
        if (!right) {
            wrong++;
            System.out.println("rule " + rule + ": " + what);
        }
    }

    private static int count(String text, String pattern) {
        Matcher matcher = Pattern.compile(pattern).matcher(text);
        int found = 0;
        while (matcher.find()) {
            found++;
        }
        return found;
    }

    private static void none(String text, int rule, String pattern) {
        Matcher matcher = Pattern.compile(pattern).matcher(text);
        while (matcher.find()) {
            look(false, rule, "'" + matcher.group().trim() + "'");
        }
    }

    /** Without comments; signs in quotes become 0, so that their braces are not counted. */
    private static String bare(String source) {
        return source.replaceAll("(?s)/\\*.*?\\*/", "").replaceAll("//[^\\n]*", "")
            .replaceAll("'(\\\\.|[^'\\\\])'", "0").replaceAll("\"(\\\\.|[^\"\\\\])*\"", "TEXT");
    }

    private static String bodyFrom(String text, int open) {
        int deep = 0;
        for (int i = open; i < text.length(); i++) {
            deep += text.charAt(i) == '{' ? 1 : text.charAt(i) == '}' ? -1 : 0;
            if (deep == 0) {
                return text.substring(open, i + 1);
            }
        }
        return text.substring(open);
    }

    public static void main(String[] args) throws IOException {
        Path file = Path.of(System.getProperty("luckshoes.source", "src/main/java/LuckShoes.java"));
        String source = new String(Files.readAllBytes(file), StandardCharsets.ISO_8859_1);
        none(source, 3, "[^\\x09\\x0a\\x20-\\x7e]");
        String text = bare(source);
        none(text, 6, "\\b(throw|throws|try|catch|finally|synchronized|assert)\\b");
        none(text, 2, "->|::|\\bvar\\b|\\bnew \\w+\\([^)]*\\)\\s*\\{");
        none(text, 13, "\\b(Random|Thread|Runtime|currentTimeMillis|nanoTime|File|Scanner|getenv|hashCode|equals)\\b");
        none(text, 4, "\\bimport (?!java\\.util\\.Arrays;)[^;]*;|\\w+Exact\\(|\\bpackage\\b");
        none(text, 4, "\\bSystem\\.(?!arraycopy\\()\\w+|\\bMath\\.(?!(min|max)\\()\\w+|\\bArrays\\.(?!fill\\()\\w+");
        none(text, 4, "TEXT|\\bString\\b|\\bHashMap\\b|\\bOptional\\b|\\bstream\\b");
        none(text, 5, "\\bstatic (?!final |boolean \\w+\\(|int \\w+\\(|long \\w+\\()[^\\n]*|\\bstatic \\{");
        none(text, 2, "\\n[ ]++(?!private static final )[a-z ]*\\b(class|interface|enum|record) \\w+");
        look(count(text, "\\bclass \\w+") <= 12, 11, "too many classes");
        methods(text);
        fields(text);
        loops(text);
        order(source);
        System.out.println("the rules: " + wrong + " wrong");
        if (wrong != 0) {
            System.exit(1);
        }
    }

    /** The calls stand as the document names them, with what its interface says ahead of some. */
    private static void order(String source) {
        StringBuilder found = new StringBuilder();
        Matcher matcher = Pattern.compile("\\n    (?:(// ---- [a-z, ]+)|public (?!static)(?:\\w+ )?(\\w+)\\()").matcher(source);
        while (matcher.find()) {
            found.append(matcher.group(1) != null ? matcher.group(1) : matcher.group(2)).append('\n');
        }
        String due = "LuckShoes\n// ---- people, cells\nperson\npeople\nmend\nof\nfeed\nlaw\nruns\n"
            + "// ---- hours in thought\nlater\nall\nstill\nrich\nsink\nbasin\nfall\nshoes\nseat\n"
            + "// ---- what was seen, bets\njudge\nseen\nbets\nmargin\nbyTurns\ndrawn\n"
            + "// ---- in deed\nhour\npour\nhang\nmoves\nled\nimage\nback\nundo\nredo\n"
            + "// ---- acts, shelves\nbody\nact\ntrace\nkeep\nrow\nput\nelement\nshift\ntaken\ncount\n";
        look(found.toString().startsWith(due), 1, "the calls and what stands ahead of them: " + found);
    }

    private static void methods(String text) {
        Map<String, Set<String>> calls = new TreeMap<>();
        Matcher matcher = METHOD.matcher(text);
        while (matcher.find()) {
            String name = matcher.group(1);
            String body = bodyFrom(text, matcher.end() - 1);
            look(count(body, "\\n") <= 60, 11, name + " is too long");
            look(matcher.group(2).split(",").length <= 7, 11, name + " takes too much");
            Set<String> called = calls.computeIfAbsent(name, n -> new TreeSet<>());
            Matcher call = CALL.matcher(body);
            while (call.find()) {
                called.add(call.group(1));
            }
        }
        look(calls.size() > 100, 0, "only " + calls.size() + " methods were found");
        for (Map.Entry<String, Set<String>> method : calls.entrySet()) {
            Set<String> unknown = new TreeSet<>(method.getValue());
            unknown.removeAll(calls.keySet());
            unknown.removeAll(NO_CALLS);
            unknown.removeAll(LIBRARY);
            look(unknown.isEmpty(), 4, method.getKey() + " calls " + unknown);
            method.getValue().retainAll(calls.keySet());
        }
        int deepest = 0;
        for (String name : calls.keySet()) {
            deepest = Math.max(deepest, depth(name, calls, new HashMap<>()));
        }
        look(deepest <= 8, 11, "calls go " + deepest + " deep");
        System.out.println(calls.size() + " methods, calls go " + deepest + " deep");
    }

    /** Calls that stand open at once, those that call one another counted once. */
    private static int depth(String name, Map<String, Set<String>> calls, Map<String, Integer> known) {
        Integer is = known.get(name);
        if (is != null) {
            return is;
        }
        Set<String> ring = ring(name, calls);
        int deepest = 0;
        for (String member : ring) {
            for (String next : calls.get(member)) {
                if (!ring.contains(next)) {
                    deepest = Math.max(deepest, depth(next, calls, known));
                }
            }
        }
        for (String member : ring) {
            known.put(member, deepest + ring.size());
        }
        return deepest + ring.size();
    }

    private static Set<String> reach(String name, Map<String, Set<String>> calls) {
        Set<String> found = new TreeSet<>();
        List<String> open = new ArrayList<>(calls.get(name));
        while (!open.isEmpty()) {
            String next = open.remove(open.size() - 1);
            if (found.add(next)) {
                open.addAll(calls.get(next));
            }
        }
        return found;
    }

    private static Set<String> ring(String name, Map<String, Set<String>> calls) {
        Set<String> ring = new TreeSet<>();
        ring.add(name);
        for (String other : reach(name, calls)) {
            if (reach(other, calls).contains(name)) {
                ring.add(other);
            }
        }
        return ring;
    }

    private static void fields(String text) {
        Matcher matcher = Pattern.compile("\\n([ ]*)(?:public |private |static |final )*class (\\w+) \\{").matcher(text);
        while (matcher.find()) {
            String body = bodyFrom(text, matcher.end() - 1);
            String deeper = "\\n" + matcher.group(1) + "    ";
            int fields = 0;
            Matcher field = Pattern.compile(deeper + "(?!.*\\bstatic\\b)(?:private |final )*[\\w\\[\\]]+ (\\w+ = [^;(]*(\\([^;]*)?;)")
                .matcher(body);
            while (field.find()) {
                fields += field.group(1).contains("new ") ? 1 : 1 + count(field.group(1), ",");
            }
            System.out.println(matcher.group(2) + ": " + fields + " fields");
            look(fields <= 20, 11, matcher.group(2) + " has " + fields + " fields");
        }
    }

    /** Every while has a counter against a bound in its own line. */
    private static void loops(String text) {
        Matcher matcher = Pattern.compile("\\b(while|for) \\(([^\\n]*)").matcher(text);
        while (matcher.find()) {
            look(matcher.group(2).matches(".*\\w+ <=? \\w+.*"), 9, matcher.group());
        }
        none(text, 9, "\\bdo \\{");
    }
}
