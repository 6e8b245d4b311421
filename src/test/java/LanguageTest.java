import java.io.IOException;
import java.nio.file.Files;
import java.nio.file.Path;
import java.util.regex.Matcher;
import java.util.regex.Pattern;

/** What LANGUAGE.md rules out and can be seen from the program's text alone. */
public final class LanguageTest {
  private static final String[] RULED_OUT = {
    "^import\\b", "^package\\b", "\\bcatch\\b", "\\btry\\b", "\\bfinally\\b", "\\bassert\\b",
    "\\bsynchronized\\b", "\\binstanceof\\b", "->", "::", "static\\s*\\{", "\\bprotected\\b",
    "\\bDouble\\.", "\\bSystem\\.(?!arraycopy)", "Exact\\b", "\\bObject\\b", "\\bwhile\\b",
    "\\bclone\\b", "\\bhashCode\\b", "\\btoString\\b", "[^\\x00-\\x7f]"
  };
  private static final Pattern THROWN = Pattern.compile("throw (.*);");
  private static final String ALLOWED_THROW =
      "new (IllegalState|IllegalArgument|IndexOutOfBounds)Exception\\(\"[^\"]*\"\\)";
  private static final Pattern METHOD = Pattern.compile("^(?:  ){1,2}\\S.*\\) ?.*\\{$");

  public static void main(String[] args) throws IOException {
    Check check = new Check();
    String source = Files.readString(Path.of(args[0]));
    String code = source.replaceAll("(?s)/\\*.*?\\*/", "").replaceAll("//.*", "");
    for (String pattern : RULED_OUT) {
      boolean found = Pattern.compile(pattern, Pattern.MULTILINE).matcher(code).find();
      check.same(pattern + " is there", false, found);
    }
    Matcher thrown = THROWN.matcher(code);
    while (thrown.find()) {
      check.same(thrown.group(), true, thrown.group(1).matches(ALLOWED_THROW));
    }
    methodLengths(check, code);
    check.end("LanguageTest");
  }

  private static void methodLengths(Check check, String code) {
    String[] lines = code.split("\n");
    for (int start = 0; start < lines.length; start++) {
      if (METHOD.matcher(lines[start]).find() && !lines[start].contains(" class ")) {
        String indent = lines[start].replaceAll("\\S.*", "");
        int end = start;
        while (end < lines.length && !lines[end].equals(indent + "}")) {
          end++;
        }
        check.same(lines[start] + " is short", true, end - start <= 60);
      }
    }
  }
}
