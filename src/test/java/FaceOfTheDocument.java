import java.io.IOException;
import java.lang.reflect.Constructor;
import java.lang.reflect.Field;
import java.lang.reflect.Method;
import java.lang.reflect.Modifier;
import java.nio.file.Files;
import java.nio.file.Path;
import java.util.ArrayList;
import java.util.Arrays;
import java.util.List;
import java.util.TreeSet;
import java.util.regex.Matcher;
import java.util.regex.Pattern;

/** The class has the face that ../shared/DOC.md shows, each member and constant of it, and none more; run from the root. */
public final class FaceOfTheDocument {
    private static final Path DOCUMENT = Path.of("../shared/DOC.md");
    private static final Path SOURCE = Path.of("src/main/java/OneRing.java");

    private static int wrong = 0;

    public static void main(String[] args) throws IOException, IllegalAccessException {
        String document = Files.readString(DOCUMENT);
        String source = Files.readString(SOURCE);
        String face = document.split("## The public face")[1].split("```")[1];
        theClass(face);
        theConstants(face);
        theConstructor(face);
        theCalls(face, source);
        thePromises(document, face);
        theHeadings(document, source);
        System.out.println(wrong == 0 ? "the face is as told" : wrong + " members are not as told");
        if (wrong != 0) {
            System.exit(1);
        }
    }

    private static void same(String what, Object is, Object due) {
        if (!is.equals(due)) {
            wrong++;
            System.out.println(what + ": is " + is + ", due is " + due);
        }
    }

    private static void theClass(String face) {
        same("the face's class", face.contains("public final class OneRing {"), true);
        int is = OneRing.class.getModifiers();
        same("public and final", Modifier.isPublic(is) && Modifier.isFinal(is) && !Modifier.isAbstract(is), true);
        same("what it extends", OneRing.class.getSuperclass(), Object.class);
        same("what it implements", OneRing.class.getInterfaces().length, 0);
        same("its package", OneRing.class.getPackageName(), "");
    }

    private static void theConstants(String face) throws IllegalAccessException {
        TreeSet<String> due = new TreeSet<>();
        Matcher told = Pattern.compile("(\\w+) = (-?\\d+)").matcher(face);
        while (told.find()) {
            due.add("public static final int " + told.group(1) + " = " + told.group(2));
        }
        TreeSet<String> is = new TreeSet<>();
        for (Field field : OneRing.class.getDeclaredFields()) {
            if (!Modifier.isPrivate(field.getModifiers())) {
                String kind = Modifier.toString(field.getModifiers()) + " " + field.getType();
                is.add(kind + " " + field.getName() + " = " + field.get(null));
            }
        }
        same("how many constants are told", due.size(), 5);
        same("constants", is, due);
    }

    private static void theConstructor(String face) {
        same("the face's constructor", face.contains("    public OneRing();"), true);
        Constructor<?>[] all = OneRing.class.getDeclaredConstructors();
        same("constructors", all.length, 1);
        same("the constructor", all[0].toString(), "public OneRing()");
    }

    /** The calls of the face, each as "int wed(int wedding)". */
    private static List<String> calls(String face) {
        List<String> all = new ArrayList<>();
        Matcher told = Pattern.compile("public ((?:int|long) \\w+\\([^)]*\\));").matcher(face);
        while (told.find()) {
            all.add(told.group(1));
        }
        return all;
    }

    /** The call without its parameters' names: "int wed(int)". */
    private static String kinds(String call) {
        return call.replaceAll("(int|long|boolean) \\w+(?=[,)])", "$1");
    }

    private static void theCalls(String face, String source) {
        same("how many calls are told", calls(face).size(), 28);
        TreeSet<String> due = new TreeSet<>();
        for (String call : calls(face)) {
            due.add("public " + kinds(call));
            same("in the source: " + call, source.contains("    public " + call + " {\n"), true);
        }
        TreeSet<String> is = new TreeSet<>();
        for (Method method : OneRing.class.getDeclaredMethods()) {
            if (!Modifier.isPrivate(method.getModifiers())) {
                String taken = String.join(", ", Arrays.stream(method.getParameterTypes()).map(Class::getName).toList());
                String kind = Modifier.toString(method.getModifiers()) + " " + method.getReturnType();
                is.add(kind + " " + method.getName() + "(" + taken + ")");
            }
        }
        same("calls", is, due);
    }

    private static void thePromises(String document, String face) {
        List<String> due = new ArrayList<>(calls(face));
        due.add(0, "OneRing()");
        List<String> is = new ArrayList<>();
        Matcher told = Pattern.compile("## Promise (\\d+): [^\\n]+\\n\\n`([^`]+)`: ").matcher(document);
        while (told.find()) {
            is.add(told.group(2));
            same("the number of a promise", told.group(1), String.valueOf(is.size()));
        }
        same("the promises' calls", is, due);
    }

    /** The document's "Ahead of the calls .. the interface says: ---- .." stands so in the source. */
    private static void theHeadings(String document, String source) {
        int headings = 0;
        Matcher told = Pattern.compile("Ahead of the calls (.*) the interface says: (---- .*)\\.\n").matcher(document);
        while (told.find()) {
            headings++;
            String[] parts = source.split(Pattern.quote("    // " + told.group(2) + "\n"));
            same("stands once: " + told.group(2), parts.length, 2);
            String behind = parts.length == 2 ? parts[1].split(" {4}// ---- ")[0] : "";
            List<String> is = new ArrayList<>();
            Matcher calls = Pattern.compile("(?m)^    public (?:int|long) (\\w+)\\(").matcher(behind);
            while (calls.find()) {
                is.add("`" + calls.group(1) + "`");
            }
            same("behind " + told.group(2), String.join(", ", is), told.group(1));
        }
        same("headings", headings, 6);
    }
}
