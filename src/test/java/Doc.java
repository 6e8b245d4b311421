import java.io.IOException;
import java.nio.file.Files;
import java.nio.file.Path;
import java.util.ArrayList;
import java.util.LinkedHashMap;
import java.util.List;
import java.util.Map;
import java.util.regex.Matcher;
import java.util.regex.Pattern;

/** The document's sentences by their section, how often each is tested, and its face. */
final class Doc {
  private static final Pattern PROMISE = Pattern.compile("## Promise (\\d+): (.*)");
  private static final Pattern METHOD =
      Pattern.compile("\\s*public \\w+ (\\w+)\\((.*)\\)(?: throws (.*))?;");

  /** A method of the face; the parameters by their names. */
  record Face(String name, List<String> parameters, List<String> thrown) {}

  private final Map<String, Map<String, Integer>> checksOf = new LinkedHashMap<>();
  private final Map<String, Integer> promiseOf = new LinkedHashMap<>();
  private final List<Face> faces = new ArrayList<>();
  private String section = "";
  private Map.Entry<String, Integer> cited = null;

  Doc(Path path) throws IOException {
    for (String line : Files.readAllLines(path)) {
      readLine(line);
    }
  }

  private void readLine(String line) {
    Matcher promise = PROMISE.matcher(line);
    Matcher method = METHOD.matcher(line);
    if (promise.matches()) {
      section = promise.group(1);
      promiseOf.put(promise.group(2), Integer.parseInt(section));
    } else if (line.startsWith("#")) {
      section = line.replaceAll("#+ ", "");
    } else if (method.matches()) {
      faces.add(new Face(method.group(1), names(method.group(2)), names(method.group(3))));
    } else if (line.endsWith(".") || line.startsWith("- ") || line.startsWith("Throws ")) {
      readSentences(line);
    }
  }

  private static List<String> names(String list) {
    List<String> names = new ArrayList<>();
    for (String part : list == null || list.isEmpty() ? new String[0] : list.split(", ")) {
      names.add(part.substring(part.indexOf(' ') + 1));
    }
    return names;
  }

  /** Without its own signature, bullet and back quotes; what the interface says is no promise. */
  private void readSentences(String line) {
    if (line.startsWith("Ahead of the calls")) {
      return;
    }
    String text = line.replaceFirst("^`[^`]*`: ", "").replaceFirst("^- ", "").replace("`", "");
    for (String sentence : text.split("(?<=\\.) (?=[A-Z])")) {
      checksOf.computeIfAbsent(section, s -> new LinkedHashMap<>()).put(sentence, 0);
    }
  }

  List<Face> faces() {
    return faces;
  }

  int promiseOf(String method) {
    return promiseOf.getOrDefault(method, 0);
  }

  /** The checks that follow are of the one sentence of the section that has these words. */
  void cite(String ofSection, String words) {
    List<Map.Entry<String, Integer>> found = new ArrayList<>();
    for (Map.Entry<String, Integer> each
        : checksOf.getOrDefault(ofSection, Map.of()).entrySet()) {
      if (each.getKey().contains(words)) {
        found.add(each);
      }
    }
    if (found.size() != 1) {
      throw new IllegalArgumentException(
          found.size() + " sentences of " + ofSection + " say: " + words);
    }
    cited = found.get(0);
  }

  void countCheck() {
    cited.setValue(cited.getValue() + 1);
  }

  /** The sentences of the terms and the promises that no check was made of. */
  List<String> untested() {
    List<String> untested = new ArrayList<>();
    checksOf.forEach((ofSection, sentences) -> sentences.forEach((sentence, checks) -> {
      boolean binds = !ofSection.equals("What it is") && !ofSection.equals("Not promised");
      if (binds && checks == 0) {
        untested.add(ofSection + ": " + sentence);
      }
    }));
    return untested;
  }
}
