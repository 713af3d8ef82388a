import java.io.IOException;
import java.nio.file.Files;
import java.nio.file.Path;
import java.util.regex.Matcher;
import java.util.regex.Pattern;

/** Looks through the program's text for what LANGUAGE.md rules out and a text search can find. */
public final class LanguageTest {
    private static final Path PROGRAM = Path.of("src/main/java/TileRenderer.java");
    private static final String[] WORDS = {"package", "import", "float", "double", "String", "Object", "Math", "Integer",
        "Long", "System", "Arrays", "null", "throw", "throws", "try", "catch", "finally", "synchronized", "assert",
        "instanceof", "interface", "enum", "record", "protected", "volatile", "native", "getClass", "hashCode", "equals",
        "toString", "clone", "var"};
    private static final int LONGEST_METHOD = 60;

    public static void main(String[] args) throws IOException {
        String text = Files.readString(PROGRAM).replaceAll("//[^\n]*", "").replaceAll("(?s)/\\*.*?\\*/", "");
        for (String word : WORDS) {
            Check.isTrue("the word " + word + " is not used", !Pattern.compile("\\b" + word + "\\b").matcher(text).find());
        }
        Check.isTrue("no text", text.indexOf('"') < 0);
        Check.isTrue("no lambda", !text.contains("->"));
        Check.isTrue("no method reference", !text.contains("::"));
        Check.isTrue("no array of arrays", !Pattern.compile("\\[\\s*\\]\\s*\\[").matcher(text).find());
        Check.isTrue("no static initialiser", !Pattern.compile("\\bstatic\\s*\\{").matcher(text).find());
        arraysAreFields(text);
        methodsAreShort(text);
        callsDoNotNest(text);
        Check.end();
    }

    private static void arraysAreFields(String text) {
        Matcher made = Pattern.compile("(?m)^.*\\bnew\\b.*$").matcher(text);
        while (made.find()) {
            Check.isTrue("made in a field's initialiser: " + made.group().trim(),
                made.group().matches(" {4}private final int\\[\\] \\w+ = new int\\[[A-Z_]+\\];"));
        }
    }

    private static void methodsAreShort(String text) {
        Matcher method = Pattern.compile("(?ms)^    (?:public|private)[^;=]*?\\{$(.*?)^    \\}$").matcher(text);
        int found = 0;
        while (method.find()) {
            found++;
            Check.isTrue("a short method: " + method.group().lines().findFirst().orElse("").trim(),
                method.group().lines().count() <= LONGEST_METHOD);
        }
        Check.isTrue("the methods were found", found > 15);
    }

    /** No call inside another call's arguments: between a name's brackets stands no name with brackets. */
    private static void callsDoNotNest(String text) {
        Matcher call = Pattern.compile("\\b(?!if\\b|for\\b|while\\b|switch\\b|return\\b)\\w+\\(").matcher(text);
        while (call.find()) {
            int depth = 1;
            int end = call.end();
            while (depth > 0) {
                char c = text.charAt(end++);
                depth += c == '(' ? 1 : c == ')' ? -1 : 0;
            }
            String arguments = text.substring(call.end(), end - 1);
            Check.isTrue("no call in " + call.group() + arguments + ")",
                !Pattern.compile("\\w\\(").matcher(arguments).find());
        }
    }
}
