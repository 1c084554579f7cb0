import java.io.IOException;
import java.nio.charset.StandardCharsets;
import java.nio.file.Files;
import java.nio.file.Path;
import java.util.Arrays;
import java.util.List;
import java.util.Set;
import java.util.TreeSet;
import java.util.regex.Matcher;
import java.util.regex.Pattern;

/** What of ../shared/LANGUAGE.md can be seen in the words of the source. */
public final class RulesTest {
    private static final Set<String> BANNED = new TreeSet<>(Arrays.asList("throw", "throws", "try", "catch", "finally",
        "synchronized", "assert", "volatile", "native", "transient", "package", "protected", "strictfp", "hashCode",
        "Object", "Thread", "Random", "currentTimeMillis", "nanoTime"));
    private static final Pattern LIBRARY = Pattern.compile("System\\.arraycopy|Arrays\\.(copyOf|copyOfRange|fill)|List\\.of"
        + "|(Math|Integer|Long)\\.(?!\\w*Exact\\b)\\w+");
    private static final Pattern IMPORT = Pattern.compile("import java\\.util\\.(Array)?(List|s|Iterator);");
    private static final int MOST_LINES = 66;

    private static int wrong = 0;

    private static void check(boolean holds, String what) {
        if (!holds) {
            wrong++;
            System.out.println("rules: " + what);
        }
    }

    public static void main(String[] args) throws IOException {
        String source = Files.readString(Path.of("src/main/java/MarketRings.java"), StandardCharsets.UTF_8);
        check(source.chars().allMatch(c -> c < 128), "a sign above 127");
        String code = source.replaceAll("(?s)/\\*.*?\\*/", "").replaceAll("//[^\n]*", "");
        Matcher words = Pattern.compile("[A-Za-z_]\\w*").matcher(code);
        while (words.find()) {
            check(!BANNED.contains(words.group()), "the word " + words.group());
        }
        check(!code.contains("->") && !code.contains("::"), "a lambda or a method reference");
        for (String line : code.split("\n")) {
            check(!line.startsWith("import ") || IMPORT.matcher(line.trim()).matches(), line);
        }
        check(!Pattern.compile("\\bstatic\\s*\\{").matcher(code).find(), "a static block");
        check(!Pattern.compile("new \\w+(\\[[^\\]]*\\])*\\s*\\(\\s*\\)\\s*\\{").matcher(code).find(), "an anonymous class");
        Set<String> own = new TreeSet<>();
        Matcher classes = Pattern.compile("(?:class|enum|record|interface) (\\w+)").matcher(code);
        while (classes.find()) {
            own.add(classes.group(1));
        }
        Matcher foreign = Pattern.compile("\\b([A-Z][a-z]\\w*)\\.(\\w+)").matcher(code);
        while (foreign.find()) {
            check(own.contains(foreign.group(1)) || LIBRARY.matcher(foreign.group()).matches(),
                "the library's " + foreign.group());
        }
        lengths(Arrays.asList(source.split("\n")));
        if (wrong != 0) {
            System.exit(1);
        }
    }

    /** Methods begin and end at the same indent, and a loop or a choice begins with its word. */
    private static void lengths(List<String> lines) {
        Pattern head = Pattern.compile("^( {4}| {8})(?!if|for|while|switch|else|return)\\w.*\\) \\{$");
        for (int i = 0; i < lines.size(); i++) {
            Matcher m = head.matcher(lines.get(i));
            if (m.find()) {
                int end = i;
                while (!lines.get(end).equals(m.group(1) + "}")) {
                    end++;
                }
                check(end - i + 1 <= MOST_LINES, "too long: " + lines.get(i).trim());
            }
        }
    }
}
