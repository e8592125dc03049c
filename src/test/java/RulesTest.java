import java.io.IOException;
import java.lang.reflect.Field;
import java.lang.reflect.Method;
import java.lang.reflect.Modifier;
import java.nio.file.Files;
import java.nio.file.Path;
import java.util.ArrayList;
import java.util.List;
import java.util.Set;
import java.util.TreeSet;
import java.util.regex.Matcher;
import java.util.regex.Pattern;

/**
 * The rules of ../shared/LANGUAGE.md that can be seen in the class's text or by reflection; FaceTest looks at rule 1.
 * It is stricter than the rules where the class does without what they allow.
 */
public final class RulesTest {
    private static final Path SOURCE = Path.of("src/main/java/DecodeTests.java");
    private static final Set<String> EXCEPTIONS = Set.of("IllegalStateException", "IllegalArgumentException",
        "IndexOutOfBoundsException", "UnsupportedOperationException");
    private static final Set<String> LIBRARY = Set.of("Math", "Integer");
    private static final Set<String> FUNCTIONS = Set.of("Math.floorMod", "Math.max", "Math.min", "Integer.bitCount",
        "Integer.numberOfTrailingZeros");
    private static final String[] LEFT_OUT = {"import", "package", "try", "catch", "finally", "synchronized", "assert",
        "while", "do", "long", "double", "float", "protected", "instanceof", "native", "volatile", "transient"};
    private static final int MOST_LINES = 60;
    private static final int MOST_PARAMETERS = 7;
    private static final int MOST_CLASSES = 12;
    private static final int MOST_FIELDS = 20;

    private static final Check CHECK = new Check();

    /** A method or constructor as it stands in the text. */
    private record Part(String header, String name, String body, int lines) {
        boolean isConstructor() {
            return Character.isUpperCase(name.charAt(0));
        }
    }

    public static void main(String[] args) throws IOException {
        String text = withoutCommentsAndTexts(Files.readString(SOURCE));
        List<Part> parts = parts(text);
        CHECK.same("methods are found", parts.size() >= 13, true);
        words(text);
        library(text);
        staticFields();
        thrown(text, parts);
        recursion(parts);
        loops(text);
        sizes(parts);
        objects(parts);
        CHECK.end("RulesTest");
    }

    private static String withoutCommentsAndTexts(String text) {
        return text.replaceAll("(?s)/\\*.*?\\*/", "").replaceAll("//.*", "").replaceAll("\"[^\"\n]*\"", "\"\"");
    }

    /** Members stand 4 blanks in, those of classes inside 8, and end with a brace as far in. */
    private static List<Part> parts(String text) {
        Pattern header = Pattern.compile("(?m)^( {4}| {8})((?:\\w+(?:\\[\\])? )*)(\\w+)\\([^{};=]*\\{$");
        Matcher at = header.matcher(text);
        List<Part> parts = new ArrayList<>();
        while (at.find()) {
            int end = text.indexOf("\n" + at.group(1) + "}", at.end());
            String body = text.substring(at.end(), end);
            int lines = (int) body.lines().count() + 2;
            parts.add(new Part(at.group(), at.group(3), body, lines));
        }
        return parts;
    }

    private static boolean hasWord(String text, String word) {
        return Pattern.compile("\\b" + word + "\\b").matcher(text).find();
    }

    private static void words(String text) {
        for (String word : LEFT_OUT) {
            CHECK.same("rules 2 to 6, 9: the text has no " + word, hasWord(text, word), false);
        }
        CHECK.same("rule 2: no lambda", text.contains("->"), false);
        CHECK.same("rule 2: no method reference", text.contains("::"), false);
        CHECK.same("rule 5: no static block", Pattern.compile("static\\s*\\{").matcher(text).find(), false);
        CHECK.same("rule 3: only signs 0 to 255", text.chars().allMatch(c -> c <= 255), true);
    }

    private static void library(String text) {
        Set<String> own = new TreeSet<>();
        own.add(DecodeTests.class.getSimpleName());
        for (Class<?> inside : DecodeTests.class.getDeclaredClasses()) {
            own.add(inside.getSimpleName());
        }
        Matcher name = Pattern.compile("\\b[A-Z]\\w*[a-z]\\w*").matcher(text);
        while (name.find()) {
            String seen = name.group();
            boolean known = own.contains(seen) || LIBRARY.contains(seen) || EXCEPTIONS.contains(seen);
            CHECK.same("rule 4: " + seen + " is of the file or the library that is left", known, true);
        }
        Matcher call = Pattern.compile("\\b(?:Math|Integer)\\.\\w+").matcher(text);
        while (call.find()) {
            CHECK.same("rule 4: " + call.group() + " may be used", FUNCTIONS.contains(call.group()), true);
        }
    }

    private static List<Class<?>> classes() {
        List<Class<?>> all = new ArrayList<>(List.of(DecodeTests.class.getDeclaredClasses()));
        all.add(DecodeTests.class);
        return all;
    }

    private static void staticFields() {
        for (Class<?> one : classes()) {
            for (Field field : one.getDeclaredFields()) {
                if (Modifier.isStatic(field.getModifiers())) {
                    boolean plain = field.getType() == int.class || field.getType() == int[].class;
                    CHECK.same("rule 5: " + field + " is final", Modifier.isFinal(field.getModifiers()), true);
                    CHECK.same("rule 5: " + field + " is an int or a row of them", plain, true);
                }
            }
        }
    }

    /** The face alone throws, so that what a call throws can be read off it; each throws what its header tells. */
    private static void thrown(String text, List<Part> parts) {
        Matcher all = Pattern.compile("\\bthrow\\b").matcher(text);
        int throwing = (int) all.results().count();
        int seen = 0;
        for (Part part : parts) {
            Matcher one = Pattern.compile("\\bthrow new (\\w+)\\(\"\"\\);").matcher(part.body);
            while (one.find()) {
                seen++;
                CHECK.same("rule 6: " + part.name + " may throw " + one.group(1), EXCEPTIONS.contains(one.group(1)), true);
                CHECK.same("rule 6: " + part.name + " tells " + one.group(1), hasWord(part.header, one.group(1)), true);
                CHECK.same("rule 6: " + part.name + " is no constructor", part.isConstructor(), false);
            }
        }
        CHECK.same("rule 6: every throw is of a new exception with a written text", seen, throwing);
    }

    private static void recursion(List<Part> parts) {
        int found = 0;
        for (Part part : parts) {
            boolean calls = Pattern.compile("(?<![.\\w])" + part.name + "\\(").matcher(part.body).find();
            if (calls && !part.isConstructor()) {
                found++;
                CHECK.same("rule 8: " + part.name + " is private and static",
                    part.header.trim().startsWith("private static "), true);
                CHECK.same("rule 8: " + part.name + " carries its depth", part.header.contains("int depth"), true);
                CHECK.same("rule 8: " + part.name + " goes one deeper", part.body.contains("depth + 1"), true);
            }
        }
        CHECK.same("rule 8: methods that call themselves are found", found > 0, true);
    }

    private static void loops(String text) {
        Matcher any = Pattern.compile("\\bfor \\(").matcher(text);
        Pattern counting = Pattern.compile("\\bfor \\(int (\\w+) = [^;]+; \\1 < [\\w.]+(?: && [^;]+)?; \\1\\+\\+\\) \\{");
        int loops = (int) any.results().count();
        int counted = (int) counting.matcher(text).results().count();
        CHECK.same("rule 9: every loop counts up to a bound", counted, loops);
    }

    private static void sizes(List<Part> parts) {
        for (Part part : parts) {
            CHECK.same("rule 11: " + part.name + " has " + part.lines + " lines", part.lines <= MOST_LINES, true);
        }
        CHECK.same("rule 11: classes", classes().size() <= MOST_CLASSES, true);
        for (Class<?> one : classes()) {
            int fields = 0;
            for (Field field : one.getDeclaredFields()) {
                fields += Modifier.isStatic(field.getModifiers()) ? 0 : 1;
            }
            CHECK.same("rule 11: " + one + " has " + fields + " fields", fields <= MOST_FIELDS, true);
            for (Method method : one.getDeclaredMethods()) {
                int taken = method.getParameterCount();
                CHECK.same("rule 11: " + method + " takes " + taken, taken <= MOST_PARAMETERS, true);
            }
        }
    }

    /** All calls of a run live in one room: rows are made with the object, and nothing but exceptions after it. */
    private static void objects(List<Part> parts) {
        for (Part part : parts) {
            if (!part.isConstructor()) {
                String rest = part.body.replaceAll("throw new ", "throw ");
                CHECK.same("rule 12: " + part.name + " makes no object", hasWord(rest, "new"), false);
            }
        }
    }
}
