import java.nio.file.Files;
import java.nio.file.Path;
import java.util.List;
import java.util.regex.Matcher;
import java.util.regex.Pattern;

/** What of LANGUAGE.md can be seen in the source alone: words that it leaves out, imports, static state, exceptions. */
public final class LanguageTest {
    public static void main(String[] args) throws Exception {
        String source = Files.readString(Path.of("src/main/java/ToolCourt.java"));
        Kit.due("3: signs above 127", source.chars().filter(c -> c > 127).count(), 0);
        String code = source.replaceAll("(?s)/\\*.*?\\*/", "").replaceAll("//[^\n]*", "").replaceAll("\"[^\"]*\"", "\"\"");
        for (String word : List.of("try", "catch", "finally", "synchronized", "assert", "instanceof", "double", "float", "Object",
                "package", "protected", "equals", "hashCode", "toString", "Random", "System.out", "Exact")) {
            Kit.due("the word " + word, Pattern.compile("\\b" + word + "\\b").matcher(code).find(), false);
        }
        for (String sign : List.of("->", "::", "@", "\" +", "+ \"")) {
            Kit.due("the sign " + sign, code.contains(sign), false);
        }
        Kit.due("imports", all(code, "import ([\\w.]+);"), List.of("java.util.Arrays", "java.util.NoSuchElementException"));
        Kit.due("static fields that are not final", all(code, "(static (?!final|class|abstract)\\w+ \\w+ ?[=;])"), List.of());
        Kit.due("what is thrown otherwise than by a written text", all(code, "(throw (?!new \\w+\\(\"\"\\);)[^;]*)"), List.of());
        Kit.due("methods with more than seven parameters", all(code, "(\\w+\\((?:\\w+ \\w+, ){7,}\\w+ \\w+\\))"), List.of());
        Kit.due("classes are at most twelve", all(code, "(class \\w+)").size() <= 12, true);
        Kit.close();
    }

    private static List<String> all(String code, String pattern) {
        Matcher matcher = Pattern.compile(pattern).matcher(code);
        List<String> found = new java.util.ArrayList<>();
        while (matcher.find()) {
            found.add(matcher.group(1));
        }
        return found;
    }
}
