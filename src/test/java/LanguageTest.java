import java.io.IOException;
import java.lang.reflect.Field;
import java.lang.reflect.Member;
import java.lang.reflect.Method;
import java.lang.reflect.Modifier;
import java.nio.charset.StandardCharsets;
import java.nio.file.Files;
import java.nio.file.Path;
import java.util.Set;
import java.util.TreeSet;
import java.util.regex.Pattern;

/** What can be seen of the rules of ../shared/LANGUAGE.md in the source and in the compiled classes. */
public final class LanguageTest {
    private static final String[] FORBIDDEN = {
        "\\bthrow\\b", "\\bthrows\\b", "\\btry\\b", "\\bcatch\\b", "\\bsynchronized\\b", "\\bassert\\b", "->", "::",
        "\\bprotected\\b", "\\bpackage\\b", "\\bSystem\\.(?!arraycopy)", "\\bThread\\b", "\\bRandom\\b", "Exact\\(",
        "\\bstatic \\{", "\\bequals\\(", "\\bhashCode\\b", "\\btoString\\b", "\\bMap\\b", "\\bSet\\b", "\\bObject\\b",
        "import (?!java\\.util\\.Arrays;)",
    };

    public static void main(String[] args) throws IOException {
        Path root = Path.of(args.length > 0 ? args[0] : ".");
        String source = Files.readString(root.resolve("src/main/java/CellTransactions.java"), StandardCharsets.US_ASCII);
        String code = source.replaceAll("(?s)/\\*.*?\\*/", "").replaceAll("//[^\n]*", "");
        for (String forbidden : FORBIDDEN) {
            Check.due("stands in the code: " + forbidden, Pattern.compile(forbidden).matcher(code).find() ? 1 : 0, 0);
        }
        methodLengths(code);
        members();
        Check.finish("LanguageTest");
    }

    /** Methods begin at the depth of their class's members and end with the bracket there. */
    private static void methodLengths(String code) {
        int length = 0;
        String name = "";
        for (String line : code.split("\n")) {
            if (line.matches(" {4}( {4})?[a-zA-Z].*\\) \\{")) {
                name = line.trim();
                length = 0;
            }
            length++;
            if (line.matches(" {4}( {4})?\\}")) {
                Check.due("lines of " + name + ": " + length, length <= 60 ? 1 : 0, 1);
                length = 0;
            }
        }
    }

    private static void members() {
        Class<?>[] inside = CellTransactions.class.getDeclaredClasses();
        Check.due("classes: " + (inside.length + 1), inside.length + 1 <= 12 ? 1 : 0, 1);
        Set<String> faceNames = new TreeSet<>();
        for (Method method : CellTransactions.class.getDeclaredMethods()) {
            if (Modifier.isPublic(method.getModifiers())) {
                faceNames.add(method.getName());
            }
        }
        oneClass(CellTransactions.class, faceNames);
        for (Class<?> type : inside) {
            Check.due("is static: " + type, Modifier.isStatic(type.getModifiers()) ? 1 : 0, 1);
            Check.due("is public: " + type, Modifier.isPublic(type.getModifiers()) ? 1 : 0, 0);
            oneClass(type, faceNames);
        }
    }

    private static void oneClass(Class<?> type, Set<String> faceNames) {
        int fields = 0;
        for (Field field : type.getDeclaredFields()) {
            if (!Modifier.isStatic(field.getModifiers())) {
                fields++;
            } else {
                Check.due("is final: " + field, Modifier.isFinal(field.getModifiers()) ? 1 : 0, 1);
            }
        }
        Check.due("fields of " + type + ": " + fields, fields <= 20 ? 1 : 0, 1);
        for (Method method : type.getDeclaredMethods()) {
            Check.due("parameters of " + method, method.getParameterCount() <= 7 ? 1 : 0, 1);
            Check.due("bears a name of the face: " + method, isHidden(method) && faceNames.contains(method.getName()) ? 1 : 0, 0);
        }
    }

    private static boolean isHidden(Member member) {
        return !Modifier.isPublic(member.getModifiers());
    }
}
