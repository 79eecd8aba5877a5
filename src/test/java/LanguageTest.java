import java.nio.file.Files;
import java.nio.file.Path;
import java.util.regex.Matcher;
import java.util.regex.Pattern;

/** What of ../shared/LANGUAGE.md can be seen in the source by its words alone; run from the project's own folder. */
public final class LanguageTest {
    private static final Check check = new Check();

    public static void main(String[] args) throws Exception {
        String source = Files.readString(Path.of("src/main/java/HeavyChains.java"));
        String code = source.replaceAll("(?s)/\\*.*?\\*/", "").replaceAll("//[^\n]*", "").replaceAll("\"[^\"]*\"", "\"\"");
        forbiddenWords(code);
        parameters(code);
        lengthOfMethods(code);
        for (char sign : source.toCharArray()) {
            if (sign > 126 || sign < 32 && sign != '\n') {
                check.due("sign " + (int) sign + " of the source", sign, '\n');
            }
        }
        check.end();
    }

    private static void forbiddenWords(String code) {
        for (String word : new String[] {"throw", "throws", "try", "catch", "finally", "synchronized", "assert", "import",
            "package", "protected", "native", "volatile", "transient", "->", "::", "Exact\\(", "System\\.(?!arraycopy)",
            "hashCode", "toString", "equals", "static \\{", "goto"}) {
            Matcher found = Pattern.compile(word.matches("[a-z]+") ? "\\b" + word + "\\b" : word).matcher(code);
            check.due("'" + word + "' stands in the source", found.find() ? 1 : 0, 0);
        }
    }

    private static void parameters(String code) {
        Matcher call = Pattern.compile("\\(([^()]*)\\) \\{").matcher(code);
        while (call.find()) {
            check.due("seven parameters at most: " + call.group(1), call.group(1).split(",").length <= 7 ? 1 : 0, 1);
        }
    }

    private static void lengthOfMethods(String code) {
        String[] lines = code.split("\n");
        for (int k = 0; k < lines.length; k++) {
            String indent = lines[k].replaceAll("\\S.*", "");
            boolean opens = lines[k].matches(" +(?!.*\\b(class|for|if|while|switch)\\b).*\\) \\{");
            for (int n = k + 1; opens && n < lines.length; n++) {
                if (lines[n].equals(indent + "}")) {
                    check.due("sixty lines at most: " + lines[k].trim(), n - k <= 60 ? 1 : 0, 1);
                    break;
                }
            }
        }
    }
}
