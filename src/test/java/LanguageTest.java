import java.nio.file.Files;
import java.nio.file.Path;
import java.util.Set;
import java.util.regex.Matcher;
import java.util.regex.Pattern;

/** Rules of ../shared/LANGUAGE.md that can be seen from the words of the source. */
public final class LanguageTest {
    private static final Due due = new Due();

    private static final Set<String> IMPORTS = Set.of("java.util.Arrays", "java.util.NoSuchElementException");

    private static final Set<String> LIBRARY = Set.of(
        "Arrays.fill", "System.arraycopy", "Math.max", "Math.min", "Integer.bitCount", "Integer.lowestOneBit",
        "Integer.numberOfTrailingZeros");

    /** What the rules leave out, and what the class has no need of. */
    private static final String[] NOT_USED = {
        "synchronized", "assert", "finally", "try", "catch", "double", "float", "Object", "Thread", "Random",
        "protected", "volatile", "native", "transient", "instanceof", "equals", "hashCode", "toString", "package"};

    private static final int MOST_LINES = 60;
    private static final int MOST_PARAMETERS = 7;
    private static final int MOST_CLASSES = 12;

    public static void main(String[] args) throws Exception {
        String source = withoutComments(Files.readString(Path.of("src/main/java/LateBinder.java")));
        words(source);
        library(source);
        methods(source);
        signs(source);
        due.finish("LanguageTest");
    }

    private static String withoutComments(String source) {
        return source.replaceAll("(?s)/\\*.*?\\*/", "").replaceAll("//[^\n]*", "");
    }

    private static int times(String regex, String source) {
        return (int) Pattern.compile(regex).matcher(source).results().count();
    }

    private static void words(String source) {
        due.part("words that are left out");
        for (String word : NOT_USED) {
            due.is(word, times("\\b" + word + "\\b", source), 0);
        }
        due.is("lambdas, method references", times("->|::", source), 0);
        due.part("6: exceptions");
        due.is("throw", times("\\bthrow\\b", source), times("throw new NoSuchElementException\\(\\);", source));
        due.part("11: some twelve classes");
        due.is("classes", times("\\b(class|enum|interface|record) [A-Z]", source) <= MOST_CLASSES ? 1 : 0, 1);
        due.part("5: static fields are final");
        due.is("static", times("\\bstatic (?!final\\b)[\\w\\[\\]]+ \\w+ ?[=;]", source), 0);
    }

    private static void library(String source) {
        due.part("4: the library");
        Matcher imported = Pattern.compile("import ([\\w.*]+);").matcher(source);
        while (imported.find()) {
            due.is("import " + imported.group(1), IMPORTS.contains(imported.group(1)) ? 1 : 0, 1);
        }
        Matcher used = Pattern.compile("\\b(?:Arrays|System|Math|Integer|Long|String)\\.\\w+").matcher(source);
        while (used.find()) {
            due.is(used.group(), LIBRARY.contains(used.group()) ? 1 : 0, 1);
        }
    }

    private static void methods(String source) {
        due.part("11: short methods, seven parameters at most");
        Pattern head = Pattern.compile("^( {4}|  {7})(?:\\w[\\w\\[\\] ]*)?\\b(\\w+)\\(([^)]*)\\)[^;={]*\\{\n", Pattern.MULTILINE);
        Matcher method = head.matcher(source);
        int seen = 0;
        while (method.find()) {
            int end = source.indexOf("\n" + method.group(1) + "}", method.end() - 1);
            int lines = times("\n", source.substring(method.end(), Math.max(end, method.end()))) + 1;
            due.is("lines of " + method.group(2) + ": " + lines, end > 0 && lines <= MOST_LINES ? 1 : 0, 1);
            int parameters = times("[^,]+", method.group(3));
            due.is("parameters of " + method.group(2), parameters <= MOST_PARAMETERS ? 1 : 0, 1);
            seen++;
        }
        due.is("methods are found: " + seen, seen > 80 ? 1 : 0, 1);
    }

    private static void signs(String source) {
        due.part("4: signs 1 to 127 alone");
        due.is("others", source.chars().filter(c -> c < 1 || c > 127).count(), 0);
    }
}
