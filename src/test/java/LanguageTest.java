import java.nio.file.Files;
import java.nio.file.Path;
import java.util.ArrayList;
import java.util.List;
import java.util.regex.Matcher;
import java.util.regex.Pattern;

/** The rules of LANGUAGE.md that a look at the source can see. */
public final class LanguageTest {
    private static final String[] NEVER = {
        "\\bthrow\\b", "\\bthrows\\b", "\\btry\\b", "\\bcatch\\b", "\\bsynchronized\\b", "\\bassert\\b",
        "->", "::", "\\bprotected\\b", "\\bpackage\\b", "\\bextends\\b.*\\bException\\b", "\\w+Exact\\b",
        "\\bObject\\b", "\\bstatic\\s*\\{", "\\bnew\\s+\\w+\\s*\\([^)]*\\)\\s*\\{", "\\bthis\\s*[,)]",
        "\\bSystem\\.(?!arraycopy)", "\\bArrays\\.(?!fill|copyOf|copyOfRange)", "_VALUE\\b", "\\bwhile\\s*\\(\\s*true",
        "for\\s*\\(\\s*;\\s*;", "\\b(hashCode|toString|equals)\\b", "\\]\\s*\\[\\s*\\]"};

    public static void main(String[] args) throws Exception {
        String source = Files.readString(Path.of("src/main/java/ShutterTown.java"));
        String code = source.replaceAll("(?s)/\\*.*?\\*/", "").replaceAll("//[^\\n]*", "");
        for (String never : NEVER) {
            Matcher found = Pattern.compile(never).matcher(code);
            Check.isTrue("no " + never, !found.find());
        }
        signs(source);
        imports(code);
        lengthsOfMethods(code);
        parameters(code);
        Check.due("classes, twelve at most", Math.max(12, code.split("\\bclass\\b").length - 1), 12);
        Check.end("LanguageTest");
    }

    private static void signs(String source) {
        Check.isTrue("plain signs alone", source.chars().allMatch(sign -> sign < 128));
    }

    private static void imports(String code) {
        List<String> found = new ArrayList<>();
        Matcher matcher = Pattern.compile("import\\s+([\\w.*]+);").matcher(code);
        while (matcher.find()) {
            found.add(matcher.group(1));
        }
        Check.isTrue("imports: " + found, found.equals(List.of("java.util.Arrays")));
    }

    private static void lengthsOfMethods(String code) {
        String[] lines = code.split("\\n");
        int start = -1;
        String indent = "";
        for (int at = 0; at < lines.length; at++) {
            Matcher head = Pattern.compile("^( {4}| {8})(?! )[\\w\\[\\] ]+\\([^)]*\\) \\{$").matcher(lines[at]);
            if (start < 0 && head.matches()) {
                start = at;
                indent = head.group(1);
            } else if (start >= 0 && lines[at].equals(indent + "}")) {
                Check.isTrue("short: " + lines[start].trim(), at - start < 60);
                start = -1;
            }
        }
    }

    private static void parameters(String code) {
        Matcher matcher = Pattern.compile("\\w+ \\w+\\(([^()]*)\\) \\{").matcher(code);
        while (matcher.find()) {
            Check.isTrue("seven parameters at most: " + matcher.group(), matcher.group(1).split(",").length <= 7);
        }
    }
}
