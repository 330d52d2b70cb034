import java.io.IOException;
import java.nio.file.Files;
import java.nio.file.Path;
import java.util.Map;
import java.util.TreeMap;
import java.util.regex.Matcher;
import java.util.regex.Pattern;

/** The rules of LANGUAGE.md that can be told from the words of the source alone; the face, of rule 1, is looked at in FaceTest. */
public final class LanguageTest {
    private static final String SOURCE = "src/main/java/HistoryJudge.java";
    private static final String[] FORBIDDEN = {
        "package", "import", "interface", "enum", "record", "extends", "implements", "float", "double", "String", "Object", "Math",
        "Integer", "Long", "System", "Arrays", "null", "throw", "throws", "try", "catch", "finally", "synchronized", "assert",
        "instanceof", "protected", "this", "super", "equals", "hashCode", "getClass", "toString", "clone", "native", "var",
    };
    private static final String[] FORBIDDEN_SIGNS = {"->", "::", "\"", "@", "[][]", "] ["};
    private static final Pattern METHOD = Pattern.compile("(?sm)^    (?:public|private)(?: static)? \\w+ (\\w+)\\(([^)]*)\\) \\{\n(.*?)^    \\}\n");
    private static final int MOST_LINES = 60;
    private static final int MOST_PARAMETERS = 7;
    private static final int MOST_DEEP = 6;
    private static final int MOST_FIELDS = 40;

    private static final Due DUE = new Due();

    public static void main(String[] args) throws IOException {
        String code = withoutComments(Files.readString(Path.of(SOURCE)));
        for (String word : FORBIDDEN) {
            DUE.is("places of the word " + word, count("\\b" + word + "\\b", code), 0);
        }
        for (String sign : FORBIDDEN_SIGNS) {
            DUE.is("places of " + sign, count(Pattern.quote(sign), code), 0);
        }
        DUE.is("classes", count("\\bclass\\b", code), 1);
        arraysAreMadeInFields(code);
        DUE.is("static fields that are not int or long constants", count("static final (?!int \\w+ =|long \\w+ =)", code), 0);
        DUE.is("static arrays", count("static final \\w+\\[", code), 0);
        DUE.is("few fields", count("(?m)^    private (final )?[\\w\\[\\]]+ \\w+( = .*)?;", code) <= MOST_FIELDS, true);
        callsInArguments(code);
        loopsCountToABound(code);
        methods(code);
        DUE.end();
    }

    private static String withoutComments(String text) {
        return text.replaceAll("(?s)/\\*.*?\\*/", " ").replaceAll("//[^\n]*", " ");
    }

    private static int count(String pattern, String code) {
        return (int) Pattern.compile(pattern).matcher(code).results().count();
    }

    private static void arraysAreMadeInFields(String code) {
        int inFields = count("private final (\\w+)\\[\\] \\w+ = new \\1\\[[A-Z_]+\\];", code);
        DUE.is("things made outside of a field's initialiser", count("\\bnew\\b", code) - inFields, 0);
    }

    /** A call is a name before a bracket; the heads of methods have only names of types and parameters in theirs. */
    private static void callsInArguments(String code) {
        Matcher call = Pattern.compile("\\b(?!if|for|while|switch|return)(\\w+)\\(").matcher(code);
        while (call.find()) {
            int end = call.end();
            for (int depth = 1; depth > 0; end++) {
                char sign = code.charAt(end);
                depth += sign == '(' ? 1 : sign == ')' ? -1 : 0;
            }
            String inside = code.substring(call.end(), end - 1);
            DUE.is("calls inside " + call.group(1) + "(" + inside + ")", count("\\w\\(", inside), 0);
        }
    }

    /** Every loop counts up from a number to a name's value, and neither its counter nor its bound is set inside it. */
    private static void loopsCountToABound(String code) {
        DUE.is("loops that are not for", count("\\b(while|do)\\b", code), 0);
        Matcher loop = Pattern.compile("(?sm)^( +)for \\(int (\\w+) = [01]; \\2 <=? (\\w+); \\2\\+\\+\\) \\{\n(.*?)^\\1\\}").matcher(code);
        int loops = 0;
        while (loop.find(loops == 0 ? 0 : loop.start(2))) {
            loops++;
            String names = "\\b(" + loop.group(2) + "|" + loop.group(3) + ")";
            DUE.is("places where " + names + " is set in its loop", count(names + " *([-+*/|&]?=[^=]|\\+\\+|--)", loop.group(4)), 0);
        }
        DUE.is("loops of that form", loops, count("\\bfor\\b", code));
    }

    private static void methods(String code) {
        Map<String, String> bodies = new TreeMap<>();
        Matcher method = METHOD.matcher(code);
        while (method.find()) {
            String name = method.group(1);
            DUE.is("a second method of the name " + name, bodies.put(name, method.group(3)) != null, false);
            DUE.is(name + " is short", method.group(3).lines().count() <= MOST_LINES, true);
            DUE.is(name + " has few parameters", method.group(2).split(",").length <= MOST_PARAMETERS, true);
        }
        DUE.is("methods found", bodies.size(), count("(?m)^    (public|private)( static)? \\w+ \\w+\\(", code));
        for (String name : bodies.keySet()) {
            DUE.is("calls from " + name + " go six deep at most", depth(bodies, name, 1) <= MOST_DEEP, true);
        }
    }

    /** The method itself counts as 1. A method that calls itself, directly or not, comes out too deep, and the search ends there. */
    private static int depth(Map<String, String> bodies, String name, int above) {
        int deepest = 0;
        for (String other : bodies.keySet()) {
            if (above <= MOST_DEEP && count("\\b" + other + "\\(", bodies.get(name)) > 0) {
                deepest = Math.max(deepest, depth(bodies, other, above + 1));
            }
        }
        return deepest + 1;
    }
}
