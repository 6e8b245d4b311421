/** The term "Input text" but for undo, and the promises 8 to 14. */
final class TextEdges extends Edges {
  TextEdges(Check check, Doc doc) {
    super(check, doc);
  }

  @Override
  void run() {
    buffer();
    parts();
    numbers();
    digits();
    leftToRight();
    append();
    clearBuffer();
    firstError();
    enterPartByPart();
    enterUpToTheEdge();
    enterSaves();
    enterCounts();
    enterIncomplete();
    hasStopped();
    stoppedPart();
    whyStopped();
    whyStoppedUpToTheEdge();
  }

  private void error(String text, int due) {
    type(text);
    due(due, () -> x.firstError());
  }

  /** No error up to its end, and none of these characters may come next. */
  private void right(String text, String notNext) {
    error(text, text.length());
    for (char next : notNext.toCharArray()) {
      x.append(next);
      due(text.length(), () -> x.firstError());
      type(text);
    }
  }

  private void whole(String text) {
    type(text);
    same(false, Check.outcome(() -> x.enter()).startsWith("throws."));
    due(0, () -> x.clearBuffer());
  }

  private void buffer() {
    says("Input text", "The buffer has at most 60 characters");
    for (int length = 1; length <= 60; length++) {
      int now = length;
      due(now, () -> x.append('0'));
    }
    badState(() -> x.append('0'));
    due(60, () -> x.clearBuffer());
    due(1, () -> x.append('0'));
  }

  private void parts() {
    says("Input text", "Entries as a text are one or more parts");
    right("", "/6789=+-;.(ag");
    right("0", "0;b.(/<>,*");
    right("5", "5;b.(/<>,*");
    right("0+", "/6b+-=;");
    right("5-", "/6b+-=;");
    right("0+0", "0+-=.(b");
    right("0-5", "5+-=.(b");
    right("0+0;", ";6=+-.");
    fresh();
    right("b", "/0ab:;=+");
    right("b1", "/789abf;=");
    right("b10", "0b=+");
    right("b16", "0b=+");
    right("b2", "0b=+");
    right("b9", "0b=+");
    right("b9;", ";=+6");
    fresh();
    for (int account = 0; account < 6; account++) {
      whole(account + "=0");
      whole(account + "+" + (5 - account));
      whole((5 - account) + "-" + account);
    }
    fresh();
    for (int base = 2; base <= 16; base++) {
      int now = base;
      whole("b" + base);
      due(now, () -> x.base());
    }
    fresh();
    enter("1=5;2=3;1+2;2-2;3=1;3+1");
    has(1, 8, 1);
    has(2, 0, 1);
    has(3, 9, 1);
  }

  private void numbers() {
    says("Input text", "A number is 1 to 8 digits, which begin with \"0\" only if they are");
    right("0=", ".();=+-g");
    right("0=0", "0123456789abcdef()");
    right("0=1", "()=+-g");
    right("0=1234567", "()=+-g");
    right("0=12345678", "0189af()=");
    right("0=0.", ".);=+g");
    fresh();
    right("0=0.0", ".)=+g");
    right("0=0.0123", "09af.)=");
    right("0=0.(", "().;g");
    right("0=0.(0", "(.;g");
    right("0=0.(0000", "09af(.;");
    right("0=0.(0)", "0f().");
    fresh();
    right("0=0.1(", "().;g");
    right("0=0.1234(5", "(.;g");
    right("0=0.1234(5678", "09af(.;");
    right("0=0.1234(5678)", "0f().");
    fresh();
    for (String number : new String[] {
        "0", "1", "10", "12345012", "0.0", "0.0000", "5.1234", "0.(0)", "0.(1234)", "1.2(3)",
        "12345012.0123(4501)"}) {
      whole("0=" + number);
    }
  }

  private void digits() {
    says("Input text", "Digits are 0 to 9 and a to f");
    for (char digit : "0123456789abcdef".toCharArray()) {
      error("0=" + digit, 3);
      error("0=1" + digit, 4);
      error("0=0." + digit, 5);
      error("0=0.(" + digit, 6);
    }
    fresh();
    for (char none : "/:@AFG`g~".toCharArray()) {
      error("0=" + none, 2);
      error("0=1" + none, 3);
      error("0=0." + none, 4);
      error("0=0.(" + none, 5);
    }
    fresh();
    due(1, () -> enter("b16"));
    due(6, () -> enter("0=0;1=9;2=a;3=f;4=0.f;5=0.(f)"));
    has(1, 9, 1);
    has(2, 10, 1);
    has(3, 15, 1);
    has(4, 15, 16);
    has(5, 1, 1);
  }

  private void leftToRight() {
    says("Input text", "The buffer is read from left to right");
    error("x0=1", 0);
    error("0x1x", 1);
    error("0=1;6", 4);
    error("0=1;0=1;0=1;z", 12);
    // Errors behind the first one do not count, nor does what would be right behind it.
    error("0=01", 3);
    error("0=00;1=1", 3);
    error(";;", 0);
    // As long as the buffer, and entries of any length begin so.
    fresh();
    error(fullText(), 60);
    fresh();
    error(fullText().substring(0, 59) + ".", 59);
    fresh();
    error("0+1;".repeat(14) + "b1;;", 58);
  }

  private void append() {
    says(8, "Appends a character to the buffer");
    x.append('b');
    x.append('9');
    due(2, () -> x.firstError());
    due(1, () -> x.enter());
    due(9, () -> x.base());
    says(8, "code: the character code, 33 to 126");
    due(1, () -> x.append(33));
    due(2, () -> x.append(126));
    says(8, "Returns the new length of the buffer");
    for (int length = 1; length <= 60; length++) {
      int now = length;
      due(now, () -> x.append('1'));
    }
    says(8, "Throws IllegalArgumentException if code is not 33 to 126");
    for (int code : new int[] {
        Integer.MIN_VALUE, -33, -1, 0, 10, 32, 127, 128, 256 + 48, 65536 + 48, Integer.MAX_VALUE}) {
      badArgument(() -> x.append(code));
    }
    due(0, () -> x.clearBuffer());
    says(8, "Throws IllegalStateException if the buffer has 60 characters");
    for (int length = 1; length <= 60; length++) {
      x.append('b');
    }
    badState(() -> x.append('b'));
    badState(() -> x.append(33));
    badState(() -> x.append(126));
    due(60, () -> x.clearBuffer());
    due(1, () -> x.append('b'));
  }

  private void clearBuffer() {
    says(9, "Clears the buffer");
    type("0=1");
    x.clearBuffer();
    badArgument(() -> x.enter());
    due(0, () -> x.firstError());
    due(1, () -> x.append('0'));
    says(9, "Returns the length that it had");
    due(0, () -> x.clearBuffer());
    type("b");
    due(1, () -> x.clearBuffer());
    due(0, () -> x.clearBuffer());
    type(fullText());
    due(60, () -> x.clearBuffer());
    due(0, () -> x.savedStates());
  }

  private void firstError() {
    says(10, "Finds the first syntax error");
    error("0=1;9=1;9", 4);
    error("0=1;1=1;9", 8);
    due(9, () -> x.clearBuffer());
    due(0, () -> x.savedStates());
    says(10, "Returns the index of the first character that is a syntax error");
    error("", 0);
    error("=", 0);
    error("0", 1);
    error("00", 1);
    error("0=1", 3);
    error("0=1=", 3);
    fresh();
    error(fullText(), 60);
  }

  private void enterPartByPart() {
    says(11, "Does what the buffer tells, part by part");
    due(3, () -> enter("0=2;0+0;b9"));
    has(0, 4, 1);
    due(9, () -> x.base());
    // The second part is not possible: the third one is not done.
    due(1, () -> enter("1=1;2-1;3=1"));
    has(1, 1, 1);
    has(3, 0, 1);
    due(0, () -> x.clearBuffer());
    // The base of the text holds for the numbers behind it.
    due(4, () -> enter("0=10;b2;1=10;b16"));
    has(0, 9, 1);
    has(1, 2, 1);
    due(16, () -> x.base());
    due(1, () -> enter("b2;1=2"));
    due(2, () -> x.base());
    due(0, () -> enter("0=2;1=1"));
    has(0, 9, 1);
  }

  private void enterUpToTheEdge() {
    says(11, "Does what the buffer tells, part by part");
    due(2, () -> enter("b16;0=3b9ac9ff"));
    has(0, MOST, 1);
    due(0, () -> enter("0=3b9aca00"));
    due(0, () -> enter("0=ffffffff"));
    due(0, () -> enter("0=ffffffff.ffff(ffff)"));
    // As much as 3b9aca00, and as 3b9ac9ff.
    due(0, () -> enter("1=3b9ac9ff.(f)"));
    due(1, () -> enter("1=3b9ac9fe.(f)"));
    has(1, MOST, 1);
    has(0, MOST, 1);
    due(2, () -> enter("b10;0=99999999.9"));
    has(0, MOST, 10);
    due(0, () -> enter("0=99999999.99"));
    due(1, () -> enter("0=0.(001)"));
    has(0, 1, 999);
    due(1, () -> enter("0=5.(001)"));
    has(0, 4996, 999);
    due(0, () -> enter("0=0.001"));
    due(0, () -> enter("0=5.001"));
    due(1, () -> enter("0=0.002"));
    has(0, 1, 500);
    due(0, () -> enter("0=0.(0001)"));
    due(1, () -> enter("0=0.(0099)"));
    has(0, 1, 101);
    fresh();
    x.setFraction(0, 999999998, 1);
    x.setFraction(1, 1, 1);
    due(1, () -> enter("0+1;0+1"));
    has(0, MOST, 1);
    due(1, () -> enter("1-1;2-0"));
    x.setFraction(2, 1, 27);
    x.setFraction(3, 1, 37);
    due(1, () -> enter("2+3"));
    has(2, 64, 999);
    x.setFraction(4, 1, 8);
    x.setFraction(5, 1, 125);
    due(0, () -> enter("4+5"));
    due(0, () -> enter("4-5"));
    has(4, 1, 8);
  }

  private void enterSaves() {
    says(11, "Undoable, as one call, also if nothing is done");
    x.setFraction(0, 5, 1);
    due(4, () -> enter("0=1;1=2;2=3;b9"));
    due(2, () -> x.savedStates());
    due(0, () -> enter("3-2"));
    due(3, () -> x.savedStates());
    isTrue(() -> x.hasStopped());
    due(2, () -> x.undo());
    isFalse(() -> x.hasStopped());
    due(9, () -> x.base());
    due(1, () -> x.undo());
    has(0, 5, 1);
    has(1, 0, 1);
    has(2, 0, 1);
    due(6, () -> x.base());
    due(0, () -> x.clearBuffer());
  }

  private void enterCounts() {
    says(11, "Returns how many parts are done");
    due(1, () -> enter("b2"));
    due(20, () -> enter("b2;".repeat(19) + "b10"));
    due(15, () -> enter("0+1;".repeat(14) + "b6"));
    due(0, () -> enter("0=6;b7"));
    due(1, () -> enter("b7;0=7;b8"));
    due(19, () -> enter("b6;".repeat(19) + "0=6"));
    // One character for a part's last digit is enough, and 60 for all.
    String full = "0=1;".repeat(14) + "0=12";
    same(60, full.length());
    due(15, () -> enter(full));
    has(0, 8, 1);
  }

  private void enterIncomplete() {
    says(11, "Throws IllegalArgumentException if the buffer is not complete entries");
    for (String text : new String[] {
        "", "0", "0=", "0=1.", "0=1.(", "0=1.(1", "0=1.1(", "0=1.1(1", "0+", "0-", "b", "b1",
        "b2;", "0=1;", "0=1;1", ";", "x", "0=1;x", "0=1x", "00", "0=01"}) {
      type(text);
      badArgument(() -> x.enter());
      due(text.length(), () -> x.clearBuffer());
    }
    fresh();
    type(fullText());
    badArgument(() -> x.enter());
    due(60, () -> x.clearBuffer());
    due(0, () -> x.savedStates());
  }

  private void hasStopped() {
    says(12, "Returns whether the latest call of enter()");
    isFalse(() -> x.hasStopped());
    type("0");
    badArgument(() -> x.enter());
    isFalse(() -> x.hasStopped());
    enter("0=1");
    isFalse(() -> x.hasStopped());
    enter("0=6;0=1");
    isTrue(() -> x.hasStopped());
    type("");
    badArgument(() -> x.enter());
    isTrue(() -> x.hasStopped());
    enter("0=1");
    isFalse(() -> x.hasStopped());
    // At its last part a text has not come to its end.
    enter("0=1;0=6");
    isTrue(() -> x.hasStopped());
    x.setBase(7);
    x.clearBuffer();
    isTrue(() -> x.hasStopped());
    enter("0=6");
    isFalse(() -> x.hasStopped());
  }

  private void stoppedPart() {
    says(13, "Returns the number of the part at which the latest call");
    enter("0=1;0=6;0=1");
    due(1, () -> x.stoppedPart());
    enter("0=1;0=1;0=6;0=1");
    due(2, () -> x.stoppedPart());
    says(13, "Returns the number, from 0");
    enter("0=6");
    due(0, () -> x.stoppedPart());
    enter("b6;".repeat(19) + "0=6");
    due(19, () -> x.stoppedPart());
    says(13, "Throws IllegalStateException if it did not stop");
    badState(() -> x.stoppedPart());
    enter("0=1");
    badState(() -> x.stoppedPart());
    enter("0=6");
    enter("0=1");
    badState(() -> x.stoppedPart());
  }

  private void stops(String text, int part, int why) {
    due(part, () -> enter(text));
    due(part, () -> x.stoppedPart());
    due(why, () -> x.whyStopped());
  }

  private void whyStopped() {
    says(14, "Tells why the latest call of enter() stopped");
    stops("0=6", 0, 1);
    stops("1-0;0=1;1-0", 2, 3);
    stops("b16;0=ffffffff", 1, 2);
    says(14, "Throws IllegalStateException if it did not stop");
    badState(() -> x.whyStopped());
    enter("0=1");
    badState(() -> x.whyStopped());
    enter("0=6");
    enter("0=1");
    badState(() -> x.whyStopped());
  }

  private void whyStoppedUpToTheEdge() {
    says(14, "Returns 1: a digit was not below the base; otherwise 3");
    for (int base = 2; base < 16; base++) {
      char digit = Character.forDigit(base, 16);
      x.setBase(base);
      due(1, () -> enter("0=" + Character.forDigit(x.base() - 1, 16)));
      stops("0=" + digit, 0, 1);
      stops("0=0." + digit, 0, 1);
      stops("0=0.(" + digit + ")", 0, 1);
      stops("0=1.1(1" + digit + ")", 0, 1);
      stops("0=f", 0, 1);
      stops("0=f0", 0, 1);
      fresh();
    }
    // Too great as well, and too fine.
    stops("b9;0=99999999", 1, 1);
    stops("b10;0=0.000a", 1, 1);
    // Below 0, and too fine: the denominator would be 1000, and 988027.
    x.setFraction(0, 1, 125);
    x.setFraction(1, 1, 8);
    stops("0-1", 0, 3);
    stops("1-0", 0, 2);
    x.setFraction(0, 1, 997);
    x.setFraction(1, 1, 991);
    stops("0-1", 0, 3);
    stops("1-0", 0, 2);
    stops("0+1", 0, 2);
    x.setFraction(2, MOST, 1);
    x.setFraction(3, 1, 1);
    stops("2+3", 0, 2);
    stops("3-2", 0, 3);
    stops("b16;2=3b9aca00", 1, 2);
    // The numbers with the most digits there can be, and the greatest ones.
    stops("2=ffffffff.ffff(fffe)", 0, 2);
    stops("2=ffffffff.ffff(ffff)", 0, 2);
    stops("2=80000000.0000(0001)", 0, 2);
    stops("2=0.0000(0001)", 0, 2);
    stops("b10;2=0.001", 1, 2);
  }
}
