import java.io.IOException;
import java.nio.file.Files;
import java.nio.file.Path;
import java.util.ArrayList;
import java.util.HashSet;
import java.util.LinkedHashMap;
import java.util.List;
import java.util.Map;
import java.util.Set;
import java.util.regex.Matcher;
import java.util.regex.Pattern;

/** The rules of LANGUAGE.md, as far as the words of the source tell. Runs in the project's folder. */
public final class LanguageTest {
    /** The rules say "some sixty lines", "some forty fields" and calls "six deep": a little more is let through. */
    private static final int MOST_LINES = 70, MOST_FIELDS = 45, DEEPEST = 7;
    private static final Set<String> FORBIDDEN = Set.of("import", "package", "float", "double", "String",
            "Math", "Integer", "Long", "System", "Arrays", "Object", "null", "throw", "throws", "try", "catch",
            "finally", "synchronized", "assert", "instanceof", "protected", "extends", "implements",
            "native", "volatile", "transient", "var", "->", "::", "\"", "@", "<>",
            "hashCode", "equals", "toString", "getClass", "clone", "notify", "notifyAll", "wait");
    private static final Set<String> FACE = Set.of("ArcDesk", "method", "add", "set", "plan", "run", "out", "ended",
            "count", "field", "state");

    private static final Set<String> WHOLE_FACE = Set.of("ArcDesk0", "method2", "add5", "set3", "plan2", "run2", "out1",
            "ended1", "count1", "field2", "state1");

    private static final List<String> words = new ArrayList<>();
    private static final List<Integer> lines = new ArrayList<>();
    /** The first and the last word of each method's body, by its name and how many it takes, such as add5. */
    private static final Map<String, int[]> bodies = new LinkedHashMap<>();

    public static void main(String[] args) throws IOException {
        readWords(Files.readString(Path.of("src/main/java/ArcDesk.java")));
        findBodies();
        for (int i = 0; i < words.size(); i++) {
            Checks.holds("no " + words.get(i) + " in line " + lines.get(i), !FORBIDDEN.contains(words.get(i)));
        }
        arraysAreMadeAtTheStart();
        fieldsAndMethods();
        noCallInArguments();
        callsGoSixDeep();
        loopsHaveAnEnd();
        Checks.finish();
    }

    private static void readWords(String source) {
        Matcher comment = Pattern.compile("/\\*.*?\\*/|//[^\n]*", Pattern.DOTALL).matcher(source);
        String bare = comment.replaceAll(found -> found.group().replaceAll("[^\n]", ""));
        int line = 1;
        Matcher word = Pattern.compile("\n|->|::|<>|\\w+|\\S").matcher(bare);
        while (word.find()) {
            if (word.group().equals("\n")) {
                line++;
            } else {
                words.add(word.group());
                lines.add(line);
            }
        }
    }

    private static boolean isName(String word) {
        return Character.isJavaIdentifierStart(word.charAt(0));
    }

    /** The place of the bracket that closes the one at i. */
    private static int closing(int i) {
        String open = words.get(i);
        String close = open.equals("(") ? ")" : "}";
        int depth = 0;
        for (int j = i; j < words.size(); j++) {
            depth += words.get(j).equals(open) ? 1 : words.get(j).equals(close) ? -1 : 0;
            if (depth == 0) {
                return j;
            }
        }
        return words.size();
    }

    private static void findBodies() {
        int i = words.indexOf("{") + 1;
        int from = i;
        while (i < words.size()) {
            String word = words.get(i);
            if (word.equals(";")) {
                from = i + 1;
            } else if (word.equals("(") && words.get(closing(i) + 1).equals("{")) {
                method(from, i);
                i = closing(closing(i) + 1);
                from = i + 1;
            }
            i++;
        }
    }

    private static void method(int from, int open) {
        String name = words.get(open - 1);
        int body = closing(open) + 1;
        int taken = argumentsOf(open);
        boolean isOpen = words.get(from).equals("public");
        Checks.holds(name + " is public or private", isOpen || words.get(from).equals("private"));
        Checks.holds(name + " is on the right side of the face", isOpen == FACE.contains(name));
        bodies.put(name + taken, new int[] {body, closing(body)});
        Checks.holds(name + " takes at most seven", taken <= 7);
        Checks.holds(name + " is short", lines.get(closing(body)) - lines.get(from) < MOST_LINES);
    }

    /** How many stand between this bracket and the one that closes it. */
    private static int argumentsOf(int open) {
        int many = closing(open) == open + 1 ? 0 : 1;
        int depth = 0;
        for (int i = open; i < closing(open); i++) {
            depth += "([".contains(words.get(i)) ? 1 : ")]".contains(words.get(i)) ? -1 : 0;
            many += depth == 1 && words.get(i).equals(",") ? 1 : 0;
        }
        return many;
    }

    private static boolean isInBody(int i) {
        for (int[] body : bodies.values()) {
            if (i >= body[0] && i <= body[1]) {
                return true;
            }
        }
        return false;
    }

    /** In a field's initialiser or in the constructor, with one length that holds no call and no variable. */
    private static void arraysAreMadeAtTheStart() {
        int[] constructor = bodies.get("ArcDesk0");
        for (int i = 0; i < words.size(); i++) {
            if (words.get(i).equals("new")) {
                boolean isInConstructor = i > constructor[0] && i < constructor[1];
                Checks.holds("new in line " + lines.get(i) + " is at the start", isInConstructor || !isInBody(i));
                String head = String.join(" ", words.subList(i + 1, words.subList(i, words.size()).indexOf(";") + i));
                Checks.holds("one length, a constant, in line " + lines.get(i),
                        head.matches("(int|long|short|byte|char|boolean) \\[ [A-Z0-9_ *+]+ \\]"));
            }
        }
    }

    private static void fieldsAndMethods() {
        int many = 0;
        for (java.lang.reflect.Field field : ArcDesk.class.getDeclaredFields()) {
            boolean isStatic = java.lang.reflect.Modifier.isStatic(field.getModifiers());
            boolean isNumber = field.getType() == int.class || field.getType() == long.class;
            Checks.holds(field.getName() + " is a constant, if static", !isStatic || isNumber
                    && java.lang.reflect.Modifier.isFinal(field.getModifiers()));
            many += isStatic ? 0 : 1;
        }
        Checks.holds("some forty fields: " + many, many <= MOST_FIELDS);
        Checks.due("classes in it", ArcDesk.class.getDeclaredClasses().length, 0);
        Checks.holds("the whole face is there", bodies.keySet().containsAll(WHOLE_FACE));
    }

    private static boolean isCall(int i) {
        return i + 1 < words.size() && isInBody(i) && isName(words.get(i)) && words.get(i + 1).equals("(")
                && bodies.containsKey(words.get(i) + argumentsOf(i + 1));
    }

    private static void noCallInArguments() {
        for (int i = 0; i < words.size(); i++) {
            for (int j = i + 2; isCall(i) && j < closing(i + 1); j++) {
                Checks.holds("no call in the arguments of line " + lines.get(i), !isCall(j));
            }
        }
    }

    private static void callsGoSixDeep() {
        for (String name : WHOLE_FACE) {
            int deep = depth(name, new HashSet<>());
            Checks.holds(name + " goes six deep: " + deep, deep <= DEEPEST);
        }
    }

    private static int depth(String name, Set<String> above) {
        boolean isNew = above.add(name);
        Checks.holds(name + " does not call itself", isNew);
        int deepest = 0;
        int[] body = bodies.get(name);
        for (int i = body[0]; i < body[1] && isNew; i++) {
            if (isCall(i)) {
                deepest = Math.max(deepest, depth(words.get(i) + argumentsOf(i + 1), above));
            }
        }
        if (isNew) {
            above.remove(name);
        }
        return deepest + 1;
    }

    private static void loopsHaveAnEnd() {
        for (int i = 0; i < words.size(); i++) {
            if (words.get(i).equals("for") || words.get(i).equals("while")) {
                String head = String.join(" ", words.subList(i + 2, closing(i + 1)));
                String condition = words.get(i).equals("for") ? head.split(";", -1)[1].trim() : head;
                Checks.holds("a bound in line " + lines.get(i) + ": " + head, condition.matches(".*[<>=].*"));
            }
        }
    }
}
