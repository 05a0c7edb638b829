import java.io.IOException;
import java.nio.file.Files;
import java.nio.file.Path;
import java.util.regex.Matcher;
import java.util.regex.Pattern;

/** The example in README.md answers what stands beside each of its calls. */
public final class ReadmeTests {
  private static final Check CHECK = new Check();
  private static final Pattern LINE = Pattern.compile("stage\\.(\\w+\\([^)]*\\)); +// answers (-?\\d+|true)\\b");

  public static void main(String[] args) throws IOException, ReflectiveOperationException {
    StringBuilder run = new StringBuilder();
    Matcher line = LINE.matcher(Files.readString(Path.of("README.md")));
    while (line.find()) {
      run.append(line.group(1)).append(" = ").append(line.group(2).replace("true", "1")).append('\n');
    }
    CHECK.due("the example is found", run.isEmpty(), false);
    Calls.run(CHECK, "README.md", run.toString());
    CHECK.end();
  }
}
