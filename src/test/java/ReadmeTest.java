import java.lang.reflect.InvocationTargetException;
import java.lang.reflect.Method;
import java.lang.reflect.Modifier;
import java.nio.file.Files;
import java.nio.file.Path;
import java.util.ArrayList;
import java.util.Arrays;
import java.util.List;
import java.util.regex.Matcher;
import java.util.regex.Pattern;

/** The README's run answers what its comments say, and its put() is the one that is used here. */
public final class ReadmeTest {
    private static final Checks C = new Checks();
    private static final Pattern TEXT = Pattern.compile("put\\(coast, \"(.*)\"\\);");
    private static final Pattern CALL = Pattern.compile("coast\\.(\\w+)\\((.*)\\); +// (.*)");

    private ReadmeTest() {
    }

    // README
    static void put(CoastLights coast, String text) {
        for (int at = 0; at < text.length(); at += 20) {
            int[] n = new int[5];
            for (int i = 0; i < 20; i++) {
                n[i / 4] = n[i / 4] << 8 | (at + i < text.length() ? text.charAt(at + i) : 0);
            }
            coast.feed(n[0], n[1], n[2], n[3], n[4]);
        }
        coast.end(text.length());
    }
    // README ends

    public static void main(String[] args) throws Exception {
        Path root = Path.of(args[0]).toAbsolutePath().getParent().getParent().getParent().getParent();
        List<String> readme = Files.readAllLines(root.resolve("README.md"));
        C.says("put() as the README tells it");
        String own = ownPut(Files.readAllLines(root.resolve("src/test/java/ReadmeTest.java")));
        C.due("put()", String.join("\n", readme).contains(own), true);
        C.says("The README's run");
        live(readme);
        C.says("The README's table");
        String table = String.join("\n", readme);
        for (Method m : CoastLights.class.getDeclaredMethods()) {
            if (Modifier.isPublic(m.getModifiers())) {
                C.due(m.getName(), table.contains("`" + m.getName() + "`"), true);
            }
        }
        C.close();
    }

    private static String ownPut(List<String> source) {
        StringBuilder text = new StringBuilder();
        for (int i = source.indexOf("    // README") + 1; !source.get(i).equals("    // README ends"); i++) {
            text.append(source.get(i).substring(4)).append('\n');
        }
        return text.toString();
    }

    private static void live(List<String> readme) throws Exception {
        CoastLights coast = new CoastLights();
        for (String line : readme) {
            Matcher text = TEXT.matcher(line);
            Matcher call = CALL.matcher(line);
            if (text.matches()) {
                put(coast, text.group(1));
            } else if (call.matches()) {
                String answer = answerOf(coast, call.group(1), call.group(2));
                String told = call.group(3);
                boolean good = told.startsWith(answer + ":") || told.startsWith(answer + " ");
                C.due(line.strip() + " with " + answer, good, true);
            } else if (line.startsWith("coast.")) {
                throw new IllegalStateException("not understood: " + line);
            }
        }
    }

    private static String answerOf(CoastLights coast, String name, String args) throws Exception {
        List<Integer> numbers = new ArrayList<>();
        for (String arg : args.split(", ")) {
            if (!arg.isEmpty()) {
                numbers.add(Integer.parseInt(arg));
            }
        }
        Class<?>[] types = new Class<?>[numbers.size()];
        Arrays.fill(types, int.class);
        try {
            return String.valueOf(CoastLights.class.getMethod(name, types).invoke(coast, numbers.toArray()));
        } catch (InvocationTargetException e) {
            return "throws " + e.getCause().getClass().getSimpleName();
        }
    }
}
