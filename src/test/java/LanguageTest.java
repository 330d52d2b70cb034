import java.io.IOException;
import java.nio.file.Files;
import java.nio.file.Path;
import java.util.regex.Matcher;
import java.util.regex.Pattern;

/** The rules of LANGUAGE.md that can be told from the words of the source alone. */
public final class LanguageTest {
    private static final String SOURCE = "src/main/java/HistoryJudge.java";
    private static final String[] FORBIDDEN = {
        "package", "import", "interface", "enum", "record", "extends", "implements", "float", "double", "String", "Object", "Math",
        "Integer", "Long", "System", "Arrays", "null", "throw", "throws", "try", "catch", "finally", "synchronized", "assert",
        "instanceof", "protected", "this", "super", "equals", "hashCode", "getClass", "toString", "clone", "native", "var",
    };
    private static final String[] FORBIDDEN_SIGNS = {"->", "::", "\"", "@", "[][]", "] ["};

    private static final Due DUE = new Due();

    public static void main(String[] args) throws IOException {
        String code = withoutComments(Files.readString(Path.of(SOURCE)));
        for (String word : FORBIDDEN) {
            DUE.is("places of the word " + word, count("\\b" + word + "\\b", code), 0);
        }
        for (String sign : FORBIDDEN_SIGNS) {
            DUE.is("places of " + sign, count(Pattern.quote(sign), code), 0);
        }
        DUE.is("classes", count("\\bclass\\b", code), 1);
        arraysAreMadeInFields(code);
        DUE.is("static fields that are not int or long constants", count("static final (?!int \\w+ =|long \\w+ =)", code), 0);
        DUE.is("static arrays", count("static final \\w+\\[", code), 0);
        callsInArguments(code);
        DUE.end();
    }

    private static String withoutComments(String text) {
        return text.replaceAll("(?s)/\\*.*?\\*/", " ").replaceAll("//[^\n]*", " ");
    }

    private static int count(String pattern, String code) {
        return (int) Pattern.compile(pattern).matcher(code).results().count();
    }

    private static void arraysAreMadeInFields(String code) {
        int inFields = count("private final (\\w+)\\[\\] \\w+ = new \\1\\[[A-Z_]+\\];", code);
        DUE.is("things made outside of a field's initialiser", count("\\bnew\\b", code) - inFields, 0);
    }

    /** A call is a name before a bracket; the heads of methods have only names of types and parameters in theirs. */
    private static void callsInArguments(String code) {
        Matcher call = Pattern.compile("\\b(?!if|for|while|switch|return)(\\w+)\\(").matcher(code);
        while (call.find()) {
            int end = call.end();
            for (int depth = 1; depth > 0; end++) {
                char sign = code.charAt(end);
                depth += sign == '(' ? 1 : sign == ')' ? -1 : 0;
            }
            String inside = code.substring(call.end(), end - 1);
            DUE.is("calls inside " + call.group(1) + "(" + inside + ")", count("\\w\\(", inside), 0);
        }
    }
}
