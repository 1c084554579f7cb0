import java.io.IOException;
import java.lang.reflect.InvocationTargetException;
import java.lang.reflect.Method;
import java.lang.reflect.Modifier;
import java.nio.charset.StandardCharsets;
import java.nio.file.Files;
import java.nio.file.Path;
import java.util.ArrayList;
import java.util.Arrays;
import java.util.List;
import java.util.TreeSet;
import java.util.regex.Matcher;
import java.util.regex.Pattern;

/** README.md names every call with its refusals as the document tells them, and its lines of Java answer what it says. */
public final class ReadmeTest {
    /** The calls and their refusals, in the order in which promises 2 to 38 tell them. */
    private static final String[] DUE = {
        "int feed(int n, long bytes): -4, -6", "int read():", "int acre(int xy, int what): -1, -2",
        "int road(int a, int b, int kind): -1, -2, -6", "int step(int kind, int v): -2, -4, -6",
        "int toll(int xy, int v): -1, -4, -6", "int way(int a, int b): -1", "int market(int xy): -1, -3, -6",
        "int use(int kind, int base, int more, int cost, int fare): -2, -4, -6",
        "int year(int use, int v): -1, -3, -4, -6", "int price(int use, int market, int v): -1, -4, -6",
        "int tax(int use, int v): -1, -4, -6", "long bid(int use, int xy, int market): -1",
        "int goes(int xy, int what): -1, -2", "long rent(int xy): -1", "int comes(int use, int market): -1",
        "int piece(int use, int market, int much, int price): -1, -4, -6",
        "int bought(int use, int market, int price): -1, -4, -6", "int clears(int use, int market): -1",
        "int rounds(int n): -4, -6", "int ring(int soil, int i): -4, -6, -3",
        "long edge(int soil, int i, int part): -2, -4, -6, -3, -1", "int out(int use): -1", "int borders():",
        "int plan(int a, int b, int kind, int cost): -1, -2, -4, -6, -3", "long gain(int plan): -1, -3",
        "int best(int sum): -4, -6, -3", "int losers(int plan): -1, -3", "int falls(int use, int v): -1, -4, -6",
        "int own(int xy, int owner): -1, -4, -6", "int held(int xy, boolean is): -1", "int hold(int owner): -4, -6",
        "int put(int v): -4, -6", "int judge():", "int image():", "int on(): -3", "int count(int what):"};
    private static final Pattern ROW = Pattern.compile("(?m)^\\| `(\\w+ \\w+\\([^)]*\\))` \\|([^|]+)\\|([^|]*)\\|$");
    private static final Pattern LINE = Pattern.compile("(?m)^x\\.(\\w+)\\(([^)]*)\\);\\s+// (-?\\d+)( .*)?$");

    public static void main(String[] args) throws IOException {
        String readme = Files.readString(Path.of("README.md"), StandardCharsets.UTF_8);
        rows(readme);
        TreeSet<String> played = play(readme);
        for (Method m : MarketRings.class.getDeclaredMethods()) {
            if (Modifier.isPublic(m.getModifiers())) {
                Due.isTrue("README.md has no line with " + m.getName() + "()", played.contains(m.getName()));
            }
        }
        Due.end();
    }

    private static void rows(String readme) {
        List<String> rows = new ArrayList<>();
        Matcher row = ROW.matcher(readme);
        while (row.find()) {
            rows.add((row.group(1) + ": " + row.group(3).trim()).trim());
            Due.isTrue("README.md tells nothing of " + row.group(1), !row.group(2).isBlank());
        }
        for (String due : DUE) {
            Due.isTrue("README.md has not once " + due, rows.indexOf(due) >= 0 && rows.indexOf(due) == rows.lastIndexOf(due));
        }
        rows.removeAll(Arrays.asList(DUE));
        Due.isTrue("README.md has calls of its own: " + rows, rows.isEmpty());
    }

    /** All lines on one object, one after the other; the names of the calls that were seen. */
    private static TreeSet<String> play(String readme) {
        MarketRings x = new MarketRings();
        TreeSet<String> played = new TreeSet<>();
        Matcher line = LINE.matcher(readme);
        int lines = 0;
        while (line.find()) {
            lines++;
            played.add(line.group(1));
            Due.is("README.md: " + line.group().trim(), answer(x, line.group(1), line.group(2)), Long.parseLong(line.group(3)));
        }
        Due.is("lines of README.md that are played", lines, readme.split("\nx\\.", -1).length - 1);
        return played;
    }

    private static long answer(MarketRings x, String name, String told) {
        String[] words = told.isEmpty() ? new String[0] : told.split(", ");
        for (Method m : MarketRings.class.getDeclaredMethods()) {
            if (Modifier.isPublic(m.getModifiers()) && m.getName().equals(name) && m.getParameterCount() == words.length) {
                Object[] values = new Object[words.length];
                for (int i = 0; i < words.length; i++) {
                    values[i] = value(m.getParameterTypes()[i], words[i]);
                }
                try {
                    return ((Number) m.invoke(x, values)).longValue();
                } catch (InvocationTargetException | IllegalAccessException e) {
                    Due.isTrue("an exception in " + name + ": " + e.getCause(), false);
                    return Long.MIN_VALUE;
                }
            }
        }
        Due.isTrue("no such call: " + name + "(" + told + ")", false);
        return Long.MIN_VALUE;
    }

    private static Object value(Class<?> type, String word) {
        if (type == boolean.class) {
            return word.equals("true");
        }
        long number = Long.decode(word.endsWith("L") ? word.substring(0, word.length() - 1) : word);
        if (type == int.class) {
            return (int) number;
        }
        return number;
    }
}
