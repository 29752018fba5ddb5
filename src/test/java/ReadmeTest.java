import java.io.IOException;
import java.nio.file.Files;
import java.nio.file.Path;
import java.util.regex.Matcher;
import java.util.regex.Pattern;

/** Does the calls of README.md's example, and holds each answer against the one that stands behind it. */
public final class ReadmeTest extends Asked {
    private static final Pattern LINE = Pattern.compile("x\\.(\\w+\\([^)]*\\)); +// (-?\\d+): .+");

    public static void main(String[] args) throws IOException {
        at("README.md");
        KeptColours x = new KeptColours();
        boolean inside = false;
        for (String line : Files.readAllLines(Path.of("README.md"))) {
            if (line.startsWith("```")) {
                inside = line.equals("```java");
            } else if (inside && line.startsWith("x.")) {
                Matcher told = LINE.matcher(line);
                if (told.matches()) {
                    due(x, told.group(1), Integer.parseInt(told.group(2)));
                } else {
                    fault("has no answer: " + line);
                }
            }
        }
        if (askedSoFar() == 0) {
            fault("there is no example");
        }
        endWith("the example");
    }
}
