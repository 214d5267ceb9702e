import java.io.IOException;
import java.lang.reflect.Field;
import java.lang.reflect.Modifier;
import java.nio.file.Files;
import java.nio.file.Path;
import java.util.List;
import java.util.regex.Matcher;
import java.util.regex.Pattern;

/** What of ../shared/LANGUAGE.md can be seen in the source: words, imports, lengths of methods, parameters, fields. */
public final class LanguageTest {
    private static final Check CHECK = new Check();

    public static void main(String[] args) throws IOException {
        String source = Files.readString(Path.of("src/main/java/SandGlasses.java"));
        String code = withoutTexts(source);
        none(code, "\\b(try|catch|throw|throws|synchronized|assert|package|volatile|native|transient)\\b");
        none(code, "->|::|@|Exact\\b|\\bNaN\\b");
        none(code, "\\b(Object|Map|Set|HashMap|Random|Thread|Scanner|Exception|Error|Class)\\b");
        none(code, "\\bSystem\\.(?!arraycopy\\b)");
        none(code, "\\bArrays\\.(?!fill\\b|copyOf\\b|copyOfRange\\b)");
        none(code, "\\bMath\\.(?!max\\b|min\\b|abs\\b|floorDiv\\b|floorMod\\b)");
        none(code, "\\b(Integer|Long)\\.(?!bitCount\\b|compare\\b|max\\b|min\\b)");
        none(code, "\\b(equals|hashCode|toString|getClass)\\s*\\(");
        none(code, "\\bstatic (?!final\\b)[\\w\\[\\]]+ \\w+\\s*[=;]");
        none(code, "\\bstatic\\s*\\{");
        none(code, "import (?!java\\.util\\.(Arrays|ArrayList|List|Iterator);)");
        none(code, "\\b(protected|public) (?!final class SandGlasses|static final int NONE|int|long|boolean|SandGlasses)");
        none(source, "\"\\s*\\+[^+]|[^+]\\+\\s*\"");
        classesInside(code);
        methods(code.split("\n"));
        fields();
        CHECK.finish();
    }

    /** Comments and texts are blanked out, lines stay lines. */
    private static String withoutTexts(String source) {
        Matcher matcher = Pattern.compile("/\\*.*?\\*/|//[^\n]*|\"[^\"\n]*\"|'[^'\n]*'", Pattern.DOTALL).matcher(source);
        return matcher.replaceAll(m -> m.group().replaceAll("[^\n]", " "));
    }

    private static void none(String code, String pattern) {
        Matcher matcher = Pattern.compile(pattern).matcher(code);
        int found = 0;
        String where = "";
        while (matcher.find()) {
            found++;
            where += " line " + (code.substring(0, matcher.start()).lines().count()) + ": " + matcher.group();
        }
        CHECK.due(pattern + where, found, 0);
    }

    private static void classesInside(String code) {
        Matcher matcher = Pattern.compile("(.*)\\b(class|record|enum|interface) (\\w+) .*\\{").matcher(code);
        int classes = 0;
        while (matcher.find()) {
            classes++;
            boolean outer = matcher.group(3).equals("SandGlasses");
            CHECK.due(matcher.group(3) + " is static", outer || matcher.group(1).contains("private static"), true);
        }
        CHECK.due("at most some twelve classes: " + classes, classes <= 13, true);
    }

    /** Some twenty a class beside its constants; static ones are constants alone. */
    private static void fields() {
        for (Class<?> inside : SandGlasses.class.getDeclaredClasses()) {
            fieldsOf(inside);
        }
        fieldsOf(SandGlasses.class);
    }

    private static void fieldsOf(Class<?> type) {
        int own = 0;
        for (Field field : type.getDeclaredFields()) {
            int modifiers = field.getModifiers();
            if (Modifier.isStatic(modifiers)) {
                CHECK.due(type.getName() + "." + field.getName() + " is final", Modifier.isFinal(modifiers), true);
            } else {
                own++;
            }
        }
        CHECK.due(type.getName() + " has at most some twenty fields: " + own, own <= 20, true);
    }

    private static void methods(String[] lines) {
        List<String> notMethods = List.of("if", "for", "while", "switch", "else", "do", "return", "new");
        Pattern head = Pattern.compile("^(\\s+)(?:[\\w\\[\\]]+ )*(\\w+)\\(([^()]*)\\) \\{$");
        int found = 0;
        for (int i = 0; i < lines.length; i++) {
            Matcher matcher = head.matcher(lines[i]);
            if (!matcher.matches() || notMethods.contains(matcher.group(2))) {
                continue;
            }
            found++;
            int end = i;
            while (!lines[end].equals(matcher.group(1) + "}")) {
                end++;
            }
            int parameters = matcher.group(3).isBlank() ? 0 : matcher.group(3).split(",").length;
            CHECK.due(matcher.group(2) + " has at most sixty lines: " + (end - i + 1), end - i + 1 <= 60, true);
            CHECK.due(matcher.group(2) + " has at most seven parameters", parameters <= 7, true);
        }
        CHECK.due("methods were found", found > 100, true);
    }
}
