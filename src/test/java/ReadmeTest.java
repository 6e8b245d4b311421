import java.nio.file.Files;
import java.nio.file.Path;
import java.util.List;
import java.util.regex.Matcher;
import java.util.regex.Pattern;

/** The calls of the example in README.md answer what stands behind them. */
public final class ReadmeTest {
  private static final String NEW_OBJECT = "SixCounts house = new SixCounts();";
  private static final Pattern TEXT = Pattern.compile(
      "for \\(char c : \"([!-~]+)\"\\.toCharArray\\(\\)\\) \\{ house\\.append\\(c\\); \\}");
  private static final Pattern CALL =
      Pattern.compile("house\\.(\\w+)\\(([-\\d, ]*)\\); +// (throws )?([\\w.-]+)(?:: .*)?");

  private final Check check = new Check();
  private SixCounts house = null;

  public static void main(String[] args) throws Exception {
    ReadmeTest test = new ReadmeTest();
    boolean inExample = false;
    for (String line : Files.readAllLines(Path.of(args[2]))) {
      if (line.startsWith("```")) {
        inExample = line.equals("```java");
      } else if (inExample && !line.isEmpty()) {
        test.run(line);
      }
    }
    test.check.end("ReadmeTest");
  }

  private void run(String line) throws ReflectiveOperationException {
    Matcher text = TEXT.matcher(line);
    Matcher call = CALL.matcher(line);
    if (line.equals(NEW_OBJECT)) {
      house = new SixCounts();
    } else if (text.matches()) {
      Script.run(house, "type " + text.group(1));
    } else if (call.matches()) {
      String due = (call.group(3) == null ? "" : "throws.") + call.group(4);
      String told = call.group(1) + " " + call.group(2).replace(",", "");
      check.same("README.md: " + line, List.of(due), Script.run(house, told.trim()));
    } else {
      check.same("README.md: a line that tells no answer", "", line);
    }
  }
}
