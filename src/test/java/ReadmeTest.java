import java.io.IOException;
import java.lang.reflect.Method;
import java.nio.file.Files;
import java.nio.file.Path;
import java.util.Arrays;
import java.util.regex.Matcher;
import java.util.regex.Pattern;

/** Makes the calls that README.md shows, line by line, and holds their answers against those that it tells. */
public final class ReadmeTest extends Checks {
  private static final Pattern CALL = Pattern.compile("x\\.(\\w+)\\(([-0-9, ]*)\\); *// (-?\\d+)(?::.*)?");
  private static final Pattern TEXT = Pattern.compile("String text = \"([^\"]*)\";");
  private static final Pattern ANSWER = Pattern.compile("\\| `(\\w+)`, (-\\d+) \\|.*");

  private static int answerOf(LightSheets x, String name, String arguments) throws ReflectiveOperationException {
    Object[] told =
        arguments.isEmpty() ? new Object[0] : Arrays.stream(arguments.split(", ")).map(Integer::valueOf).toArray();
    for (Method m : LightSheets.class.getMethods()) {
      if (m.getName().equals(name) && m.getDeclaringClass() == LightSheets.class) {
        return (int) m.invoke(x, told);
      }
    }
    throw new NoSuchMethodException(name);
  }

  private static void example(String readme) throws ReflectiveOperationException {
    says("README.md says how to use the class: the example");
    LightSheets x = new LightSheets();
    for (String line : readme.lines().toList()) {
      Matcher text = TEXT.matcher(line);
      Matcher call = CALL.matcher(line);
      if (text.matches()) {
        feedText(x, text.group(1));
      } else if (call.matches()) {
        due(answerOf(x, call.group(1), call.group(2)), Long.parseLong(call.group(3)), line);
      } else {
        due(line.startsWith("x.") ? 1 : 0, 0, "a call that tells no answer: " + line);
      }
    }
  }

  private static void answers(String readme) throws ReflectiveOperationException {
    says("README.md says how to use the class: the answers that are no numbers");
    for (String line : readme.lines().toList()) {
      Matcher answer = ANSWER.matcher(line);
      if (answer.matches()) {
        due(LightSheets.class.getField(answer.group(1)).getInt(null), Long.parseLong(answer.group(2)), line);
      }
    }
  }

  private static void tests(String readme) throws IOException {
    says("README.md says how to run its tests: each of them is named there");
    try (var files = Files.list(Path.of("src/test/java"))) {
      for (Path file : files.toList()) {
        String name = file.getFileName().toString().replace(".java", "");
        due(readme.contains("`" + name + "`") ? 1 : 0, 1, name);
      }
    }
  }

  public static void main(String[] args) throws IOException, ReflectiveOperationException {
    String readme = Files.readString(Path.of("README.md"));
    example(readme);
    answers(readme);
    tests(readme);
    end();
  }
}
