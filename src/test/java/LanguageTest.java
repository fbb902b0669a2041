import java.io.IOException;
import java.lang.reflect.Constructor;
import java.lang.reflect.Field;
import java.lang.reflect.Method;
import java.lang.reflect.Modifier;
import java.nio.file.Files;
import java.nio.file.Path;
import java.util.Set;
import java.util.TreeSet;
import java.util.regex.Matcher;
import java.util.regex.Pattern;

/** The rules of LANGUAGE.md that can be seen in the text, and the document's face. */
public final class LanguageTest {
    private static final Path SOURCE = Path.of("src/main/java/CastlesAreAssessed.java");
    private static final Path DOC = Path.of("../shared/DOC.md");
    private static final int LONGEST_METHOD = 60;
    private static final int MOST_CLASSES = 12;
    private static final int MOST_FIELDS = 20;

    public static void main(String[] args) throws IOException {
        face(Files.readString(DOC));
        members(CastlesAreAssessed.class);
        String source = Files.readString(SOURCE);
        Check.holds("signs 10, 32 to 126", source.matches("[\\n -~]*"));
        String code = source.replaceAll("(?s)/\\*.*?\\*/", "").replaceAll("//[^\\n]*", "").replaceAll("'.'", "0");
        words(code);
        objects(code);
        methods(code);
        Check.ends();
    }

    private static void face(String doc) {
        Set<String> due = new TreeSet<>();
        Matcher line = Pattern.compile("    public (int|long) (\\w+)\\(([^)]*)\\);").matcher(doc);
        while (line.find()) {
            int parameters = line.group(3).isEmpty() ? 0 : line.group(3).split(",").length;
            due.add(line.group(1) + " " + line.group(2) + " " + parameters);
        }
        Set<String> stands = new TreeSet<>();
        for (Method method : CastlesAreAssessed.class.getDeclaredMethods()) {
            if (Modifier.isPublic(method.getModifiers())) {
                stands.add(method.getReturnType() + " " + method.getName() + " " + method.getParameterCount());
            }
        }
        Check.holds("41 methods", due.size() == 41);
        Check.holds("the face is " + due, stands.equals(due));
        Check.holds("one public constructor", CastlesAreAssessed.class.getConstructors().length == 1
            && CastlesAreAssessed.class.getDeclaredConstructors().length == 1);
        Check.holds("public and final", CastlesAreAssessed.class.getModifiers() == Modifier.PUBLIC + Modifier.FINAL);
    }

    private static void members(Class<?> outer) {
        Check.holds("few classes", outer.getDeclaredClasses().length < MOST_CLASSES);
        for (Method method : outer.getDeclaredMethods()) {
            int how = method.getModifiers();
            Check.holds(method + " is public or private", Modifier.isPublic(how) || Modifier.isPrivate(how));
        }
        for (Field field : outer.getDeclaredFields()) {
            Check.holds(field + " is private", Modifier.isPrivate(field.getModifiers()));
        }
        fields(outer);
        for (Class<?> inside : outer.getDeclaredClasses()) {
            Check.holds(inside + " is static", Modifier.isStatic(inside.getModifiers()));
            fields(inside);
            for (Constructor<?> constructor : inside.getDeclaredConstructors()) {
                Check.holds(constructor + " is private", Modifier.isPrivate(constructor.getModifiers()));
            }
            names(outer, inside);
        }
        names(outer, outer);
    }

    private static void fields(Class<?> type) {
        int fields = 0;
        for (Field field : type.getDeclaredFields()) {
            boolean constant = Modifier.isStatic(field.getModifiers());
            Check.holds(field + " is final if static", !constant || Modifier.isFinal(field.getModifiers()));
            fields += constant ? 0 : 1;
        }
        Check.holds(type + " has few fields", fields <= MOST_FIELDS);
    }

    private static void names(Class<?> outer, Class<?> type) {
        Set<String> taken = new TreeSet<>();
        for (Method method : outer.getMethods()) {
            taken.add(method.getName());
        }
        for (Method method : type.getDeclaredMethods()) {
            boolean free = Modifier.isPublic(method.getModifiers()) || !taken.contains(method.getName());
            Check.holds(method + " bears a name of its own", free);
            Check.holds(method + " takes at most seven", method.getParameterCount() <= 7);
        }
    }

    private static void words(String code) {
        String[] none = {"throw", "throws", "try", "catch", "finally", "synchronized", "assert", "import", "package",
            "while", "do", "float", "double", "instanceof", "native", "protected", "var", "String", "Object"};
        for (String word : none) {
            Check.holds("no " + word, !Pattern.compile("\\b" + word + "\\b").matcher(code).find());
        }
        Check.holds("no text", code.indexOf('"') < 0);
        Check.holds("no lambda", !code.contains("->"));
        Check.holds("no method reference", !code.contains("::"));
        Check.holds("no initialiser block", !Pattern.compile("static\\s*\\{").matcher(code).find());
        Matcher library = Pattern.compile("\\b(Math|Integer|Long|System|Arrays)\\.(\\w+)").matcher(code);
        Set<String> listed = Set.of("Math.max", "Math.min", "Math.abs", "Math.floorMod", "Integer.bitCount");
        while (library.find()) {
            Check.holds(library.group() + " is listed", listed.contains(library.group()));
        }
    }

    /** Objects are made by fields of an object and by the constructor, never by a call. */
    private static void objects(String code) {
        for (String line : code.split("\\n")) {
            if (Pattern.compile("\\bnew\\b").matcher(line).find()) {
                boolean field = line.matches("    (    )?private final \\w+(\\[\\])? \\w+ = new \\w+(\\(\\)|\\[\\w+\\]);");
                Check.holds("made once: " + line, field || line.trim().equals("earlier[i] = new Beach();"));
            }
        }
    }

    private static void methods(String code) {
        String[] lines = code.split("\\n");
        Pattern head = Pattern.compile("( {4}| {8})(?=\\w)[\\w\\[\\]<> ]+\\([^;]*\\) \\{");
        int seen = 0;
        for (int i = 0; i < lines.length; i++) {
            Matcher matcher = head.matcher(lines[i]);
            if (matcher.matches() && !lines[i].trim().matches("(for|if|switch|else).*")) {
                int end = i;
                while (!lines[end].equals(matcher.group(1) + "}")) {
                    end++;
                }
                seen++;
                Check.holds(lines[i].trim() + " is short", end - i < LONGEST_METHOD);
            }
        }
        Check.holds("methods are seen", seen > 80);
    }
}
