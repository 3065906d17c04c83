import java.io.IOException;
import java.lang.reflect.Field;
import java.lang.reflect.Method;
import java.lang.reflect.Modifier;
import java.nio.file.Files;
import java.nio.file.Path;
import java.util.Set;
import java.util.TreeSet;
import java.util.regex.Matcher;
import java.util.regex.Pattern;

/** The rules of LANGUAGE.md that can be read off the source or the compiled class, by their numbers. */
public final class LanguageTest {
    private static final Path SOURCE = Path.of("src/main/java/CapabilityVats.java");

    public static void main(String[] args) throws IOException {
        String text = Files.readString(SOURCE);
        String code = text.replaceAll("(?s)/\\*.*?\\*/", "").replaceAll("//[^\n]*", "");
        Script.due("a file of characters below 128", text.chars().allMatch(c -> c < 128), true);
        words(code);
        names(code);
        loops(code);
        lengths(text);
        statics(CapabilityVats.class);
        members(CapabilityVats.class);
        for (Class<?> inside : CapabilityVats.class.getDeclaredClasses()) {
            Script.due("1: " + inside.getName() + " is static", Modifier.isStatic(inside.getModifiers()), true);
            Script.due("1: " + inside.getName() + " is public", Modifier.isPublic(inside.getModifiers()), false);
            statics(inside);
            members(inside);
        }
        Script.due("11: classes, at most 12", CapabilityVats.class.getDeclaredClasses().length + 1 <= 12, true);
        Script.end();
    }

    private static void words(String code) {
        for (String word : new String[] {"import", "package", "synchronized", "assert", "finally", "try", "throw",
                "native", "volatile", "double", "float", "var", "yield"}) {
            Script.due("has the word " + word, Pattern.compile("\\b" + word + "\\b").matcher(code).find(), false);
        }
        for (String sign : new String[] {"->", "::", "@", "\"", "/ ", "%"}) {
            Script.due("has the sign " + sign, code.contains(sign), false);
        }
    }

    /** Rule 4: no class of the library is named at all, as this program has a need of none. */
    private static void names(String code) {
        Set<String> own = Set.of("CapabilityVats", "Reference", "Thing", "Message", "Line");
        Set<String> others = new TreeSet<>();
        Matcher name = Pattern.compile("\\b[A-Z]\\w*[a-z]\\w*").matcher(code);
        while (name.find()) {
            if (!own.contains(name.group())) {
                others.add(name.group());
            }
        }
        Script.due("4: names of other classes", others, Set.of());
    }

    /** Rule 9: each loop counts in its own head against a bound. */
    private static void loops(String code) {
        Script.due("9: loops without a counter", Pattern.compile("\\b(while|do)\\b").matcher(code).find(), false);
        Matcher head = Pattern.compile("\\bfor \\(([^\n]*)\\) \\{").matcher(code);
        int heads = 0;
        while (head.find()) {
            heads++;
            boolean counts = head.group(1).matches("int \\w+ = [^;]+; \\w+ (<|>|>=) [^;]+; \\w+(\\+\\+|--)");
            Script.due("9: counts: " + head.group(1), counts, true);
        }
        Script.due("9: heads of loops", heads, code.split("\\bfor\\b").length - 1);
    }

    /** Rule 11: a member ends where a brace stands as deep as its first line. */
    private static void lengths(String text) {
        Matcher member = Pattern.compile("(?ms)^( {4}| {8})(?=\\w)[^\n=;]*\\) \\{$.*?^\\1\\}$").matcher(text);
        int members = 0;
        for (int from = 0; from < text.length() && member.find(from); from = member.end()) {
            members++;
            String firstLine = member.group().lines().findFirst().orElse("").strip();
            Script.due("11: some sixty lines: " + firstLine, member.group().lines().count() <= 60, true);
        }
        Script.due("11: members were found", members > 40, true);
    }

    private static void statics(Class<?> looked) {
        for (Field field : looked.getDeclaredFields()) {
            if (Modifier.isStatic(field.getModifiers())) {
                Script.due("5: final: " + field, Modifier.isFinal(field.getModifiers()), true);
                Script.due("5: a constant: " + field, field.getType(), int.class);
            }
        }
    }

    private static void members(Class<?> looked) {
        int fields = 0;
        for (Field field : looked.getDeclaredFields()) {
            fields += Modifier.isStatic(field.getModifiers()) ? 0 : 1;
        }
        Script.due("11: fields, at most 20: " + looked.getName(), fields <= 20, true);
        for (Method method : looked.getDeclaredMethods()) {
            Script.due("11: parameters, at most 7: " + method, method.getParameterCount() <= 7, true);
            boolean own = Set.of("equals", "hashCode", "toString").contains(method.getName());
            Script.due("6: is its own: " + method, own, false);
        }
    }
}
