import java.io.IOException;
import java.lang.reflect.Field;
import java.lang.reflect.Method;
import java.lang.reflect.Modifier;
import java.nio.file.Files;
import java.nio.file.Path;
import java.util.HashSet;
import java.util.List;
import java.util.Set;
import java.util.regex.Matcher;
import java.util.regex.Pattern;

/** Those rules of LANGUAGE.md that a look at the source and at the compiled class can hold. Runs in the project's folder. */
public final class LanguageRules {
    private static final Path SOURCE = Path.of("src/main/java/GlassSpindle.java");
    private static final List<String> FACE = List.of("feed", "spindle", "bowl", "note", "drop", "finger", "noteOf", "touched", "warmth", "cracked", "why",
        "speaks", "sounds", "along", "silence", "best", "atTreadle", "wrong", "judged", "lifts", "fewest", "fingered", "far", "beating", "within", "ground",
        "groundOf", "spare", "exchange", "moved", "order", "ordered", "mark", "count");
    private static final List<String> BANNED = List.of("->", "::", "\\bcatch\\b", "\\btry\\b", "\\bfinally\\b", "\\bsynchronized\\b", "\\bassert\\b", "Exact\\b",
        "\\bSystem\\.(?!arraycopy)", "\\bthis\\)", "\\bpackage\\b", "\\bprotected\\b", "import (?!java\\.util\\.(Arrays|NoSuchElementException);)", "\" *\\+|\\+ *\"");
    private static int wrong = 0;

    private LanguageRules() { }

    public static void main(String[] args) throws IOException {
        List<String> lines = Files.readAllLines(SOURCE);
        banned(lines);
        lengths(lines);
        face();
        insides();
        System.out.println("language rules: " + wrong + " broken");
        if (wrong != 0) {
            System.exit(1);
        }
    }

    private static void broken(String what) {
        wrong++;
        System.out.println("broken: " + what);
    }

    private static boolean isComment(String line) {
        return line.strip().startsWith("/**") || line.strip().startsWith("*");
    }

    private static void banned(List<String> lines) {
        for (String line : lines) {
            for (String pattern : BANNED) {
                if (!isComment(line) && Pattern.compile(pattern).matcher(line).find()) {
                    broken(pattern + " in " + line.strip());
                }
            }
            if (line.chars().anyMatch(c -> c > 126)) {
                broken("a sign in " + line.strip());
            }
        }
    }

    private static void lengths(List<String> lines) {
        Pattern head = Pattern.compile("^( {4}| {8})(?!if|for|while|switch|return|\\})[\\w\\[\\] ]*\\w+\\(([^)]*)\\)( throws \\w+)? \\{$");
        int begun = -1;
        String indent = "";
        for (int i = 0; i < lines.size(); i++) {
            Matcher m = head.matcher(lines.get(i));
            if (m.matches()) {
                begun = i;
                indent = m.group(1);
                if (m.group(2).split(",").length > 7) {
                    broken("parameters of " + lines.get(i).strip());
                }
            }
            if (begun >= 0 && lines.get(i).equals(indent + "}")) {
                if (i - begun > 60) {
                    broken("length of " + lines.get(begun).strip());
                }
                begun = -1;
            }
        }
    }

    private static void face() {
        Class<?> c = GlassSpindle.class;
        Set<String> seen = new HashSet<>();
        for (Method m : c.getDeclaredMethods()) {
            boolean isPublic = Modifier.isPublic(m.getModifiers());
            if (isPublic && !seen.add(m.getName()) || isPublic != FACE.contains(m.getName()) || !isPublic && !Modifier.isPrivate(m.getModifiers())) {
                broken("method " + m);
            }
        }
        if (!seen.equals(new HashSet<>(FACE)) || c.getConstructors().length != 1 || c.getDeclaredConstructors().length != 1 || !Modifier.isFinal(c.getModifiers())) {
            broken("the face");
        }
        for (Field f : c.getDeclaredFields()) {
            if (f.getName().equals("NONE") != Modifier.isPublic(f.getModifiers()) || !f.getName().equals("NONE") && !Modifier.isPrivate(f.getModifiers())) {
                broken("field " + f);
            }
        }
    }

    private static void insides() {
        Class<?>[] inside = GlassSpindle.class.getDeclaredClasses();
        if (inside.length + 1 > 12) {
            broken("too many classes: " + inside.length);
        }
        for (Class<?> c : inside) {
            int fields = 0;
            for (Field f : c.getDeclaredFields()) {
                fields += Modifier.isStatic(f.getModifiers()) ? 0 : 1;
                if (Modifier.isStatic(f.getModifiers()) && !Modifier.isFinal(f.getModifiers())) {
                    broken("static state " + f);
                }
            }
            if (fields > 20 || !Modifier.isStatic(c.getModifiers())) {
                broken("class " + c + " with " + fields + " fields");
            }
            for (Method m : c.getDeclaredMethods()) {
                if (FACE.contains(m.getName())) {
                    broken("a name of the face: " + m);
                }
            }
        }
    }
}
