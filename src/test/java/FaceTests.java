import java.lang.reflect.Member;
import java.lang.reflect.Method;
import java.lang.reflect.Modifier;
import java.nio.file.Files;
import java.nio.file.Path;
import java.util.ArrayList;
import java.util.Arrays;
import java.util.List;
import java.util.Set;
import java.util.TreeSet;
import java.util.regex.Matcher;
import java.util.regex.Pattern;

/** The face of the class, and those rules of LANGUAGE.md that its text shows. The first argument is its file. */
public final class FaceTests {
    private static final Checks CHECKS = new Checks("FaceTests");
    private static final Set<String> FACE = new TreeSet<>(List.of(
            "input()", "fixed(int)", "gate(int,int,int,int)", "store(int,int)", "reads(int,int)", "about(int,int)",
            "line(int,boolean)", "set(int,int)", "tick(int)", "fresh()", "possible()", "row(int)", "sure(int)",
            "told(int)", "known(boolean)", "settles()", "next(int)", "depends(int,int)", "crossings()",
            "crossing(int)", "alone(int)", "mend(int)", "need(int,int,int)", "go(int)", "gone(int)", "count(int)"));
    private static final Set<String> CONSTANTS =
            new TreeSet<>(List.of("UNKNOWN", "OUTSIDE", "STATE", "FULL", "NONE"));

    public static void main(String[] args) throws Exception {
        Class<?> face = FirstStates.class;
        CHECKS.holds("public and final", Modifier.isPublic(face.getModifiers()) && Modifier.isFinal(face.getModifiers()));
        CHECKS.due("public constructors", face.getConstructors().length, 1);
        Set<String> open = new TreeSet<>();
        Set<String> openNames = new TreeSet<>();
        Set<String> closedNames = new TreeSet<>();
        for (Method m : face.getDeclaredMethods()) {
            if (Modifier.isPrivate(m.getModifiers())) {
                closedNames.add(m.getName());
                continue;
            }
            String kinds = Arrays.toString(m.getParameterTypes()).replaceAll("[\\[\\] ]", "");
            open.add(m.getName() + "(" + kinds + ")");
            openNames.add(m.getName());
            CHECKS.holds(m.getName() + " is public and of int",
                    Modifier.isPublic(m.getModifiers()) && m.getReturnType() == int.class);
        }
        CHECKS.holds("methods: " + open, open.equals(FACE));
        closedNames.retainAll(openNames);
        CHECKS.holds("private methods with a public name: " + closedNames, closedNames.isEmpty());
        CHECKS.holds("constants", names(face.getDeclaredFields()).equals(CONSTANTS));
        for (Class<?> inside : face.getDeclaredClasses()) {
            CHECKS.holds(inside + " is static and not public",
                    Modifier.isStatic(inside.getModifiers()) && !Modifier.isPublic(inside.getModifiers()));
        }
        lookAtText(Files.readString(Path.of(args[0])));
        CHECKS.end();
    }

    private static Set<String> names(Member[] members) {
        Set<String> found = new TreeSet<>();
        for (Member m : members) {
            if (!Modifier.isPrivate(m.getModifiers())) {
                found.add(m.getName());
            }
        }
        return found;
    }

    private static void lookAtText(String text) {
        String code = text.replaceAll("(?s)/\\*.*?\\*/", "").replaceAll("//[^\n]*", "");
        List<String> banned = new ArrayList<>(List.of(
                "throw", "throws", "try", "catch", "finally", "synchronized", "assert", "import", "package",
                "instanceof", "System", "Thread", "Object"));
        for (String word : banned) {
            Matcher m = Pattern.compile("\\b" + word + "\\b").matcher(code);
            CHECKS.holds("no word " + word, !m.find());
        }
        CHECKS.holds("no lambda", !code.contains("->"));
        CHECKS.holds("no method reference", !code.contains("::"));
        CHECKS.holds("no division", !code.contains("/") && !code.contains("%"));
        lookAtMaking(code);
    }

    /** All calls of a run share one room, so only fields and the outer constructor make objects. */
    private static void lookAtMaking(String code) {
        for (String line : code.split("\n")) {
            if (line.matches(".*\\bnew\\b.*")) {
                CHECKS.holds("made once for an object: " + line.trim(),
                        line.matches(" +(private )?final (int|long)\\[] \\w+ = new .*")
                                || line.matches(" {8}\\w+ = new (Circuit|Walk|Parts|Needs)\\(.*"));
            }
        }
    }
}
