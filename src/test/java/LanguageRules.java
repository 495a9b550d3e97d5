import java.io.IOException;
import java.nio.file.Files;
import java.nio.file.Path;
import java.util.ArrayList;
import java.util.Arrays;
import java.util.List;
import java.util.Map;
import java.util.TreeMap;
import java.util.TreeSet;
import java.util.regex.Matcher;
import java.util.regex.Pattern;

/**
 * The rules of ../shared/LANGUAGE.md that can be seen in the text of the class, told more strictly where it needs less
 * than they leave; run from the project's root.
 */
public final class LanguageRules {
    private static final Path SOURCE = Path.of("src/main/java/OneRing.java");
    private static final List<String> FACE = List.of("write", "wipe", "fault", "parish", "wedding", "road", "way",
        "wed", "carry", "linger", "mend", "undo", "most", "slack", "mending", "judge", "later", "see", "unsee", "rows",
        "share", "rests", "falls", "seed", "summers", "keep", "again", "count");
    private static final List<String> BANNED = List.of("throw", "throws", "try", "catch", "finally", "synchronized",
        "assert", "import", "package", "var", "System", "Exception", "Object", "protected", "native",
        "volatile", "transient", "yield", "hashCode", "toString", "equals");

    private static int wrong = 0;

    public static void main(String[] args) throws IOException {
        String text = Files.readString(SOURCE);
        String code = text.replaceAll("(?s)/\\*.*?\\*/", "").replaceAll("//[^\n]*", "");
        signs(text);
        words(code);
        face(code);
        methodLengths(code.split("\n"));
        library(code);
        makes(code);
        classesInside();
        staticFields(code);
        loops(code);
        callsInsideCalls(code);
        indexesAndDivisors(code);
        System.out.println(wrong == 0 ? "the rules are kept" : wrong + " breaches");
        if (wrong != 0) {
            System.exit(1);
        }
    }

    private static void breach(String what) {
        wrong++;
        System.out.println(what);
    }

    private static void signs(String text) {
        for (int i = 0; i < text.length(); i++) {
            char c = text.charAt(i);
            if (c > 126 || c < ' ' && c != '\n') {
                breach("a sign of number " + (int) c + " at " + i);
            }
        }
    }

    private static void words(String code) {
        for (String word : BANNED) {
            if (Pattern.compile("\\b" + word + "\\b").matcher(code).find()) {
                breach("rules 4 to 6: " + word);
            }
        }
        for (String sign : List.of("->", "::", "\"", "@", "...", "<>")) {
            if (code.contains(sign)) {
                breach("rules 2 to 4: " + sign);
            }
        }
    }

    private static void face(String code) {
        List<String> open = new ArrayList<>();
        Matcher heads = Pattern.compile("(?m)^ +(public |private )?(static )?[\\w\\[\\]]+ (\\w+)\\(([^)]*)\\) \\{").matcher(code);
        while (heads.find()) {
            String name = heads.group(3);
            if (heads.group(1) != null && heads.group(1).equals("public ")) {
                open.add(name);
            } else if (FACE.contains(name)) {
                breach("rule 1: a method of one's own by the name " + name);
            }
            if (heads.group(4).split(",").length > 7) {
                breach("rule 11: parameters of " + name);
            }
        }
        if (!open.equals(FACE)) {
            breach("rule 1: public methods are " + open);
        }
        if (OneRing.class.getDeclaredConstructors().length != 1) {
            breach("rule 1: constructors");
        }
        for (var field : OneRing.class.getDeclaredFields()) {
            boolean constant = List.of("UNKNOWN", "OUTSIDE", "STATE", "FULL", "NONE").contains(field.getName());
            if (!java.lang.reflect.Modifier.isPrivate(field.getModifiers()) && !constant) {
                breach("rule 1: field " + field.getName());
            }
        }
        for (var method : OneRing.class.getDeclaredMethods()) {
            int is = method.getModifiers();
            if (!java.lang.reflect.Modifier.isPrivate(is) && !FACE.contains(method.getName())) {
                breach("rule 1: method " + method.getName());
            }
        }
        int fields = Arrays.stream(OneRing.class.getDeclaredFields())
            .mapToInt(f -> java.lang.reflect.Modifier.isStatic(f.getModifiers()) ? 0 : 1).sum();
        if (fields > 20) {
            breach("rule 11: " + fields + " fields");
        }
    }

    private static void methodLengths(String[] lines) {
        int start = -1;
        for (int i = 0; i < lines.length; i++) {
            if (start < 0 && lines[i].matches(" +[\\w\\[\\] ]+\\([^)]*\\) \\{") && !lines[i].matches(" +(if|for|switch|else).*")) {
                start = i;
            } else if (start >= 0 && lines[i].matches(" {4,8}\\}")) {
                if (i - start > 60) {
                    breach("rule 11: a long method at line " + start);
                }
                start = -1;
            }
        }
    }

    private static void library(String code) {
        Matcher uses = Pattern.compile("\\b([A-Z][a-z]\\w*)\\.(\\w+)").matcher(code);
        while (uses.find()) {
            if (!List.of("Math.max", "Math.min", "Math.abs", "Integer.bitCount").contains(uses.group())) {
                breach("rule 4: " + uses.group());
            }
        }
    }

    /** Objects are made with an object, none by a call: in what a field begins with, or in a constructor's loop. */
    private static void makes(String code) {
        for (String line : code.split("\n")) {
            boolean field = line.matches(" +(private )?final [\\w\\[\\]]+ \\w+ = new .*;");
            boolean row = line.matches(" +\\w+\\[i\\] = new Stand\\(\\);");
            if (line.matches(".*\\bnew\\b.*") && !field && !row) {
                breach("rule 12: made by a call: " + line.trim());
            }
        }
    }

    private static void classesInside() {
        Class<?>[] inside = OneRing.class.getDeclaredClasses();
        if (inside.length > 11) {
            breach("rule 11: " + inside.length + " classes inside");
        }
        for (Class<?> one : inside) {
            int is = one.getModifiers();
            if (!java.lang.reflect.Modifier.isStatic(is) || !java.lang.reflect.Modifier.isPrivate(is)) {
                breach("rules 1 and 2: " + one.getName());
            }
            if (one.getDeclaredFields().length > 20 || one.getDeclaredClasses().length > 0) {
                breach("rule 11: " + one.getName());
            }
        }
    }

    private static void staticFields(String code) {
        List<Class<?>> all = new ArrayList<>(List.of(OneRing.class.getDeclaredClasses()));
        all.add(OneRing.class);
        for (Class<?> one : all) {
            for (var field : one.getDeclaredFields()) {
                int is = field.getModifiers();
                if (!java.lang.reflect.Modifier.isStatic(is)) {
                    continue;
                }
                boolean plain = List.of("int", "long", "boolean", "char", "int[]", "long[]", "char[]", "byte[]")
                    .contains(field.getType().getSimpleName());
                boolean changed = Pattern.compile("\\b" + field.getName() + "(\\[[^\\]]*\\])? *(=[^=]|\\+\\+|--|[-+*/|&^]=)")
                    .matcher(code.replaceAll("(?m)^.*static final.*$", "")).find();
                if (!java.lang.reflect.Modifier.isFinal(is) || !plain || changed) {
                    breach("rule 5: " + field.getName());
                }
            }
        }
    }

    /** Each loop is a for whose head has a bound. */
    private static void loops(String code) {
        if (Pattern.compile("\\b(while|do)\\b").matcher(code).find()) {
            breach("rule 9: a loop that is no for");
        }
        Matcher heads = Pattern.compile("\\bfor \\(([^{]*)\\) \\{").matcher(code);
        while (heads.find()) {
            if (!heads.group(1).matches("int (\\w+) = [^;]+; \\1 (<|>=) [^;]+; \\1(\\+\\+|--)")) {
                breach("rule 9: a for without a plain bound: " + heads.group(1));
            }
        }
    }

    /** By the names of methods their texts; those of one name are taken together. */
    private static Map<String, List<String>> bodies(String code) {
        String head = "(?m)^( +)(?:public |private )?(?:static )?(?:[\\w\\[\\]]+ )?(\\w+)\\([^)]*\\) \\{$";
        Matcher heads = Pattern.compile(head).matcher(code);
        Map<String, List<String>> bodies = new TreeMap<>();
        while (heads.find()) {
            if (!List.of("if", "for", "switch").contains(heads.group(2))) {
                String body = code.substring(heads.end(), code.indexOf("\n" + heads.group(1) + "}\n", heads.end()));
                bodies.computeIfAbsent(heads.group(2), name -> new ArrayList<>()).add(body);
            }
        }
        return bodies;
    }

    /** By the names of methods: what each one calls. */
    private static Map<String, TreeSet<String>> callGraph(String code) {
        Map<String, List<String>> bodies = bodies(code);
        Map<String, TreeSet<String>> graph = new TreeMap<>();
        for (String name : bodies.keySet()) {
            TreeSet<String> called = new TreeSet<>();
            Matcher calls = Pattern.compile("\\b(\\w+)\\(").matcher(String.join("\n", bodies.get(name)));
            while (calls.find()) {
                if (bodies.containsKey(calls.group(1))) {
                    called.add(calls.group(1));
                }
            }
            graph.put(name, called);
        }
        return graph;
    }

    private static void callsInsideCalls(String code) {
        Map<String, TreeSet<String>> graph = callGraph(code);
        if (!graph.keySet().containsAll(FACE) || !graph.containsKey("goOn")) {
            breach("the methods are not found in the text");
        }
        for (String name : graph.keySet()) {
            boolean itself = graph.get(name).remove(name);
            if (itself && !name.equals("goOn")) {
                breach("rule 8: calls itself: " + name);
            }
        }
        if (!code.contains("private static void goOn(Search search, Parish told, int depth,")
            || !code.contains("if (depth >= search.limit || depth >= WEDDINGS) {\n                return;")) {
            breach("rule 8: the recursion has no guard on its depth");
        }
        for (String name : FACE) {
            deepest(graph, name, new ArrayList<>());
        }
    }

    private static void deepest(Map<String, TreeSet<String>> graph, String name, List<String> open) {
        if (open.contains(name)) {
            breach("rule 8: call one another: " + open + ", " + name);
            return;
        }
        open.add(name);
        if (open.size() > 8) {
            breach("rule 11: deeper than eight: " + open);
        } else {
            for (String called : graph.get(name)) {
                deepest(graph, called, open);
            }
        }
        open.remove(open.size() - 1);
    }

    private static void indexesAndDivisors(String code) {
        int looked = 0;
        for (var bodies : bodies(code).entrySet()) {
            for (String body : bodies.getValue()) {
                Matcher uses = Pattern.compile("\\b(\\w+)\\[([^\\]]+)\\]").matcher(body);
                while (uses.find()) {
                    looked++;
                    if (!isLookedAt(body, uses.group(1), uses.group(2))) {
                        breach("rule 7: an index that is not looked at in " + bodies.getKey() + ": " + uses.group());
                    }
                }
                Matcher divisions = Pattern.compile("[/%] *(\\w+|\\([^)]*\\))").matcher(body);
                while (divisions.find()) {
                    looked++;
                    String divisor = divisions.group(1);
                    boolean constant = divisor.matches("[1-9]\\d*|[A-Z]+|\\([A-Z]+ \\+ 1\\)");
                    if (!constant && !body.contains(divisor + " > 0") && !body.contains(divisor + " < 1")) {
                        breach("rule 7: a divisor that is not looked at in " + bodies.getKey() + ": " + divisor);
                    }
                }
            }
        }
        if (looked < 30) {
            breach("only " + looked + " indexes and divisors are found in the text");
        }
    }

    private static boolean isLookedAt(String body, String array, String index) {
        if (body.contains("if (!isSlot(" + index + "))")) {
            return true;
        }
        boolean fromNone = body.contains("int " + index + " = 0;");
        boolean below = fromNone || body.contains(index + " < 0") || body.contains(index + " >= 0");
        String length = array + ".length";
        return below && (body.contains(index + " < " + length) || body.contains(index + " >= " + length));
    }
}
