import java.util.concurrent.Callable;

/** Tests of single sentences of the document, each one on a new object. */
abstract class Edges {
  static final int[] NO_ACCOUNTS = {Integer.MIN_VALUE, -1, 6, Integer.MAX_VALUE};
  static final int[] NO_BASES = {Integer.MIN_VALUE, -1, 0, 1, 17, Integer.MAX_VALUE};
  static final int MOST = 999999999;

  private final Check check;
  final Doc doc;
  private String said = "";
  SixCounts x = new SixCounts();

  Edges(Check check, Doc doc) {
    this.check = check;
    this.doc = doc;
  }

  abstract void run() throws Exception;

  void says(int promise, String words) {
    says(Integer.toString(promise), words);
  }

  void says(String section, String words) {
    doc.cite(section, words);
    said = section + " says " + words;
    fresh();
  }

  void fresh() {
    x = new SixCounts();
  }

  void same(Object due, Object got) {
    doc.countCheck();
    check.same(said + " (" + where() + "):", due, got);
  }

  /** The line of the test that asks. */
  private static String where() {
    return StackWalker.getInstance().walk(frames -> frames
        .filter(frame -> !frame.getClassName().equals("Edges"))
        .findFirst().map(frame -> frame.getFileName() + " " + frame.getLineNumber()).orElse(""));
  }

  void due(long due, Callable<?> call) {
    same(Long.toString(due), Check.outcome(call));
  }

  void isTrue(Callable<?> call) {
    same("true", Check.outcome(call));
  }

  void isFalse(Callable<?> call) {
    same("false", Check.outcome(call));
  }

  void noPlace(Callable<?> call) {
    refused("IndexOutOfBoundsException", call);
  }

  void badArgument(Callable<?> call) {
    refused("IllegalArgumentException", call);
  }

  void badState(Callable<?> call) {
    refused("IllegalStateException", call);
  }

  private void refused(String exception, Callable<?> call) {
    long before = x.digest();
    same("throws." + exception, Check.outcome(call));
    same(before, x.digest());
  }

  void has(int account, int numerator, int denominator) {
    same(numerator + "/" + denominator, x.numerator(account) + "/" + x.denominator(account));
  }

  void type(String text) {
    x.clearBuffer();
    for (int index = 0; index < text.length(); index++) {
      x.append(text.charAt(index));
    }
  }

  int enter(String text) {
    type(text);
    return x.enter();
  }

  String written(int account) {
    StringBuilder text = new StringBuilder();
    int length = x.writtenLength(account);
    for (int place = 0; place < length; place++) {
      text.append((char) x.writtenAt(account, place));
    }
    return text.toString();
  }

  /** A text of as many characters as the buffer has room for, without an error. */
  static String fullText() {
    return "0+1;".repeat(15);
  }
}
