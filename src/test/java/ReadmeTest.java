import java.io.IOException;
import java.lang.reflect.Method;
import java.lang.reflect.Modifier;
import java.nio.file.Files;
import java.nio.file.Path;
import java.util.List;
import java.util.regex.Matcher;
import java.util.regex.Pattern;
import java.util.stream.Stream;

/** README.md: the answers of its example are right, and it names every call of the face and every test. */
public final class ReadmeTest {
    private static final Pattern CALL = Pattern.compile("x\\.(\\w+)\\(([^)]*)\\); +// (-?\\d+)\\b.*");

    public static void main(String[] args) throws IOException {
        List<String> lines = Files.readAllLines(Path.of("README.md"));
        example(lines);
        String text = String.join("\n", lines);
        for (Method m : LoopsBelow.class.getDeclaredMethods()) {
            if (Modifier.isPublic(m.getModifiers())) {
                Due.is("README.md names " + m.getName(), text.contains("`" + m.getName() + "`") ? 1 : 0, 1);
            }
        }
        try (Stream<Path> files = Files.list(Path.of("src/test/java"))) {
            files.map(p -> p.getFileName().toString()).filter(name -> name.endsWith("Test.java")).forEach(name -> named(text, name));
        }
        Due.end();
    }

    private static void example(List<String> lines) {
        Player x = new Player();
        int played = 0;
        for (String line : lines) {
            Matcher call = CALL.matcher(line);
            if (call.matches()) {
                String[] parts = call.group(2).isEmpty() ? new String[0] : call.group(2).split(", *");
                long[] arguments = new long[parts.length];
                for (int i = 0; i < parts.length; i++) {
                    arguments[i] = Long.decode(parts[i]);
                }
                Due.is("README.md: " + line, x.ask(call.group(1), arguments), Long.parseLong(call.group(3)));
                played++;
            } else {
                Due.is("README.md: a call without its answer: " + line, line.startsWith("x.") ? 1 : 0, 0);
            }
        }
        Due.is("README.md has an example", played > 0 ? 1 : 0, 1);
    }

    private static void named(String text, String file) {
        String test = file.substring(0, file.length() - ".java".length());
        Due.is("README.md names " + test, text.contains("`" + test + "`") ? 1 : 0, 1);
    }
}
