import java.lang.reflect.Method;
import java.nio.file.Files;
import java.nio.file.Path;
import java.util.Set;
import java.util.TreeSet;
import java.util.regex.Matcher;
import java.util.regex.Pattern;

/** The examples of README.md, run in their order: each call answers the number that stands behind it. */
public final class ReadmeTest {
    private static final Check CHECK = new Check();
    private static final Pattern MAKING = Pattern.compile("LeafAsks x = new LeafAsks\\(\\);");
    private static final Pattern TELLING =
        Pattern.compile("for \\(char letter : \"([^\"]*)\"\\.toCharArray\\(\\)\\) x\\.type\\(letter\\);");
    private static final Pattern CALL = Pattern.compile("x\\.(\\w+)\\(([^)]*)\\); +// (-?\\d+): .*");

    private static LeafAsks x = null;
    private static final Set<String> CALLED = new TreeSet<>();

    public static void main(String[] args) throws Exception {
        boolean inCode = false;
        for (String line : Files.readAllLines(Path.of("README.md"))) {
            if (line.startsWith("```")) {
                inCode = line.equals("```java");
            } else if (inCode) {
                run(line);
            }
        }
        for (Method method : LeafAsks.class.getDeclaredMethods()) {
            if (java.lang.reflect.Modifier.isPublic(method.getModifiers())) {
                CHECK.due("README.md shows " + method.getName(), CALLED.contains(method.getName()));
            }
        }
        CHECK.end("ReadmeTest");
    }

    private static void run(String line) throws Exception {
        Matcher telling = TELLING.matcher(line);
        Matcher call = CALL.matcher(line);
        if (MAKING.matcher(line).matches()) {
            x = new LeafAsks();
        } else if (telling.matches()) {
            Check.type(x, telling.group(1));
        } else if (call.matches()) {
            CALLED.add(call.group(1));
            CHECK.due("README.md: " + line, answer(call.group(1), call.group(2)), Integer.parseInt(call.group(3)));
        } else {
            CHECK.due("a line of README.md that is understood: " + line, false);
        }
    }

    private static int answer(String name, String numbers) throws Exception {
        String[] words = numbers.isEmpty() ? new String[0] : numbers.split(", *");
        Object[] values = new Object[words.length];
        Class<?>[] types = new Class<?>[words.length];
        for (int i = 0; i < words.length; i++) {
            values[i] = Integer.valueOf(words[i]);
            types[i] = int.class;
        }
        return (Integer) LeafAsks.class.getMethod(name, types).invoke(x, values);
    }
}
