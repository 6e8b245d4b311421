/** Each promise of the document by its number: ordinary inputs, edges and wrong inputs. */
public final class PromisesTest {
  private static final int[] NO_ACCOUNTS = {Integer.MIN_VALUE, -1, 6, Integer.MAX_VALUE};
  private static final int[] NO_BASES = {Integer.MIN_VALUE, -6, 0, 1, 17, Integer.MAX_VALUE};

  private final Check check = new Check();
  private SixCounts x = new SixCounts();

  public static void main(String[] args) throws ReflectiveOperationException {
    PromisesTest test = new PromisesTest();
    test.changes();
    test.texts();
    test.states();
    test.looks();
    test.wholeDigits();
    test.digitsBehind();
    test.columns();
    test.wouldBe();
    test.promise46();
    test.check.end("PromisesTest");
  }

  private void changes() {
    promise1();
    promise2();
    promise3();
    promise4();
    promise5();
    promise6();
    promise7();
  }

  private void texts() {
    promise8And9();
    promise10();
    promise11();
    promise12To14();
  }

  private void states() {
    promise15And18();
    promise16And17();
  }

  private void looks() {
    promise19To22();
    promise23();
    promise24();
  }

  private void wholeDigits() {
    promise25To27();
    promise28To30();
  }

  private void digitsBehind() {
    promise31To33();
    promise34();
    promise35();
    promise36And37();
  }

  private void columns() {
    promise38To41();
  }

  private void wouldBe() {
    promise42();
    promise43();
    promise44();
    promise45();
  }

  private void fresh() {
    x = new SixCounts();
  }

  private void type(String text) {
    x.clearBuffer();
    for (int index = 0; index < text.length(); index++) {
      x.append(text.charAt(index));
    }
  }

  private int enter(String text) {
    type(text);
    return x.enter();
  }

  private void has(int account, int numerator, int denominator) {
    check.answers("numerator " + account, numerator, () -> x.numerator(account));
    check.answers("denominator " + account, denominator, () -> x.denominator(account));
  }

  private String written(int account) {
    StringBuilder text = new StringBuilder();
    for (int place = 0; place < x.writtenLength(account); place++) {
      text.append((char) x.writtenAt(account, place));
    }
    return text.toString();
  }

  private void promise1() {
    fresh();
    check.answers("1 base", 6, () -> x.base());
    for (int account = 0; account < 6; account++) {
      has(account, 0, 1);
    }
    check.badState("1 no snapshot", () -> x.restore());
    check.answers("1 empty buffer", 0, () -> x.clearBuffer());
    check.answers("1 saved states", 0, () -> x.savedStates());
    check.same("1 stopped", "false", Check.outcome(() -> x.hasStopped()));
  }

  private void promise2() {
    fresh();
    x.setFraction(0, 7, 2);
    check.answers("2 to 16", 6, () -> x.setBase(16));
    check.answers("2 to 2", 16, () -> x.setBase(2));
    check.answers("2 base", 2, () -> x.base());
    has(0, 7, 2);
    for (int base : NO_BASES) {
      check.badArgument("2 " + base, () -> x.setBase(base));
    }
    check.answers("2 kept", 2, () -> x.base());
    check.answers("2 saved", 3, () -> x.savedStates());
    check.answers("2 no change", 2, () -> x.setBase(2));
    check.answers("2 saved too", 4, () -> x.savedStates());
    x.undo();
    x.undo();
    check.answers("2 undone", 16, () -> x.base());
  }

  private void promise3() {
    fresh();
    check.answers("3 common factor", 2, () -> x.setFraction(5, 10, 4));
    has(5, 5, 2);
    check.answers("3 nothing", 1, () -> x.setFraction(5, 0, 999));
    has(5, 0, 1);
    check.answers("3 greatest", 1, () -> x.setFraction(0, 999999999, 1));
    check.answers("3 997", 997, () -> x.setFraction(1, 999999999, 997));
    check.answers("3 999", 1, () -> x.setFraction(2, 999999999, 999));
    has(2, 1001001, 1);
    for (int account : NO_ACCOUNTS) {
      check.noPlace("3 account", () -> x.setFraction(account, 1, 1));
      check.noPlace("3 account first", () -> x.setFraction(account, -1, 0));
    }
    check.badArgument("3 below 0", () -> x.setFraction(0, -1, 1));
    check.badArgument("3 too great", () -> x.setFraction(0, 1000000000, 10));
    check.badArgument("3 by 0", () -> x.setFraction(0, 1, 0));
    check.badArgument("3 by less", () -> x.setFraction(0, 1, -1));
    check.badArgument("3 by more", () -> x.setFraction(0, 1000, 1000));
    has(0, 999999999, 1);
    check.answers("3 saved", 5, () -> x.savedStates());
  }

  private void promise4() {
    fresh();
    x.setFraction(0, 1, 6);
    x.setFraction(1, 1, 3);
    check.answers("4 sum", 1, () -> x.add(0, 1));
    has(0, 1, 2);
    has(1, 1, 3);
    check.answers("4 itself", 1, () -> x.add(0, 0));
    has(0, 1, 1);
    for (int account : NO_ACCOUNTS) {
      check.noPlace("4 account", () -> x.add(account, 0));
      check.noPlace("4 other", () -> x.add(0, account));
    }
    x.setFraction(2, 1, 27);
    x.setFraction(3, 1, 37);
    check.answers("4 denominator 999", 64, () -> x.add(2, 3));
    has(2, 64, 999);
    check.badState("4 denominator 1998", () -> addHalf());
    x.setFraction(4, 999999998, 1);
    x.setFraction(5, 1, 1);
    check.answers("4 greatest", 999999999, () -> x.add(4, 5));
    int saved = x.savedStates();
    check.badState("4 one more", () -> x.add(4, 5));
    has(4, 999999999, 1);
    check.answers("4 not saved", saved, () -> x.savedStates());
    x.undo();
    has(4, 999999998, 1);
  }

  private int addHalf() {
    x.setFraction(1, 1, 2);
    return x.add(2, 1);
  }

  private void promise5() {
    fresh();
    x.setFraction(0, 5, 6);
    x.setFraction(1, 1, 3);
    check.answers("5 difference", 1, () -> x.subtract(0, 1));
    has(0, 1, 2);
    has(1, 1, 3);
    check.badState("5 below 0", () -> x.subtract(1, 0));
    check.answers("5 itself", 0, () -> x.subtract(1, 1));
    has(1, 0, 1);
    for (int account : NO_ACCOUNTS) {
      check.noPlace("5 account", () -> x.subtract(account, 0));
      check.noPlace("5 other", () -> x.subtract(0, account));
    }
    x.setFraction(2, 999999999, 2);
    x.setFraction(3, 1, 3);
    check.badState("5 numerator", () -> x.subtract(2, 3));
    x.setFraction(4, 1, 31);
    x.setFraction(5, 1, 37);
    check.badState("5 denominator", () -> x.subtract(4, 5));
    check.answers("5 saved", 6, () -> x.savedStates());
    x.undo();
    has(5, 0, 1);
  }

  private void promise6() {
    fresh();
    x.setFraction(0, 5, 12);
    check.answers("6 one", 2, () -> x.shift(0, 1));
    has(0, 5, 2);
    check.answers("6 back", 12, () -> x.shift(0, -1));
    check.answers("6 by none", 12, () -> x.shift(0, 0));
    check.answers("6 three", 1, () -> x.shift(0, 3));
    has(0, 90, 1);
    check.answers("6 three back", 12, () -> x.shift(0, -3));
    check.badState("6 denominator", () -> x.shift(0, -3));
    check.answers("6 nothing", 1, () -> x.shift(1, -3));
    x.setFraction(2, 4629629, 1);
    check.answers("6 nearly", 1, () -> x.shift(2, 3));
    has(2, 999999864, 1);
    x.setFraction(2, 4629630, 1);
    check.badState("6 numerator", () -> x.shift(2, 3));
    has(2, 4629630, 1);
    for (int account : NO_ACCOUNTS) {
      check.noPlace("6 account", () -> x.shift(account, 4));
    }
    check.badArgument("6 four", () -> x.shift(0, 4));
    check.badArgument("6 four back", () -> x.shift(2, -4));
    x.setBase(16);
    x.setFraction(3, 1, 1);
    check.answers("6 in 16", 256, () -> x.shift(3, -2));
    check.badState("6 in 16 further", () -> x.shift(3, -1));
  }

  private void promise7() {
    fresh();
    x.setFraction(0, 22, 7);
    x.setFraction(1, 1, 2);
    check.answers("7 pays", 1, () -> x.pay(0, 1, 3));
    has(0, 1, 7);
    has(1, 7, 2);
    check.badState("7 less", () -> x.pay(0, 1, 1));
    check.answers("7 saved", 3, () -> x.savedStates());
    x.undo();
    has(0, 22, 7);
    has(1, 1, 2);
    for (int account : NO_ACCOUNTS) {
      check.noPlace("7 account", () -> x.pay(account, account, 0));
      check.noPlace("7 other", () -> x.pay(0, account, 0));
    }
    check.badArgument("7 same", () -> x.pay(0, 0, 1));
    check.badArgument("7 none", () -> x.pay(0, 1, 0));
    check.badArgument("7 below", () -> x.pay(0, 1, -1));
    check.badArgument("7 too many", () -> x.pay(0, 1, 1000000));
    x.setFraction(2, 999999, 1);
    x.setFraction(3, 999000000, 1);
    check.answers("7 all", 0, () -> x.pay(2, 3, 999999));
    has(3, 999999999, 1);
    x.setFraction(4, 5, 1);
    check.badState("7 paid has too much", () -> x.pay(4, 3, 1));
    has(4, 5, 1);
    has(3, 999999999, 1);
    x.setFraction(5, 999999999, 998);
    check.badState("7 numerator of the paid", () -> x.pay(4, 5, 1));
    x.setFraction(3, 999999999, 1);
    check.answers("7 many", 999000000, () -> x.pay(3, 0, 999999));
    has(0, 7000015, 7);
  }

  private void promise8And9() {
    fresh();
    check.answers("8 first", 1, () -> x.append(33));
    check.answers("8 last", 2, () -> x.append(126));
    check.badArgument("8 32", () -> x.append(32));
    check.badArgument("8 127", () -> x.append(127));
    check.badArgument("8 below", () -> x.append(-1));
    for (int length = 3; length <= 60; length++) {
      check.answers("8 length", length, () -> x.append('1'));
    }
    check.badState("8 full", () -> x.append('1'));
    check.badArgument("8 full and wrong", () -> x.append(32));
    check.answers("8 nothing saved", 0, () -> x.savedStates());
    check.answers("9 60", 60, () -> x.clearBuffer());
    check.answers("9 0", 0, () -> x.clearBuffer());
    check.answers("9 nothing saved", 0, () -> x.savedStates());
    check.answers("8 again", 1, () -> x.append('b'));
  }

  private void error(String text, int due) {
    type(text);
    check.answers("10 " + text, due, () -> x.firstError());
  }

  /** Right up to its end: no error there, but in whatever else is appended. */
  private void right(String text) {
    error(text, text.length());
  }

  private void promise10() {
    fresh();
    for (String text : new String[] {
        "", "0", "5=", "0=0", "0=0.", "0=0.0", "0=0.0000", "0=0.(", "0=0.(0", "0=0.(0000)",
        "3=12345678", "3=abcdef", "0=1.2(3)", "0=1.2345(6789)", "0+", "0+0", "0-5", "b", "b1",
        "b2", "b9", "b10", "b16", "b16;", "b2;b3;0=f;1+0", "0=ffffffff.ffff(ffff)"}) {
      right(text);
    }
    fresh();
    error("6", 0);
    error("a", 0);
    error("=", 0);
    error("00", 1);
    error("0=00", 3);
    error("0=01", 3);
    error("0=123456789", 10);
    error("0=g", 2);
    error("0=A", 2);
    error("0=.", 2);
    error("0=(", 2);
    error("0=1(", 3);
    error("0=1..", 4);
    error("0=1.;", 4);
    error("0=1.12345", 8);
    error("0=1.()", 5);
    error("0=1.(12345", 9);
    error("0=1.1(12345", 10);
    error("0=1.(1;", 6);
    error("0=1.(1)1", 7);
    error("0=1.(1)(", 7);
    error("0=1.1)", 5);
    fresh();
    error("0+6", 2);
    error("0+00", 3);
    error("0+1+", 3);
    error("0-=", 2);
    error("b0", 1);
    error("b02", 1);
    error("b17", 2);
    error("b1a", 2);
    error("b1;", 2);
    error("b20", 2);
    error("ba", 1);
    error(";", 0);
    error("b2;;", 3);
    error("0=1;x=", 4);
    error("xxxx", 0);
    fresh();
    StringBuilder longest = new StringBuilder("b2");
    while (longest.length() + 4 <= 60) {
      longest.append(";0+1");
    }
    right(longest + ";0");
    error(longest + ";7", longest.length() + 1);
    check.answers("10 changes nothing", 60, () -> x.clearBuffer());
  }

  private void promise11() {
    fresh();
    for (String text : new String[] {
        "", "0", "0=", "0=1.", "0=1.(", "0=1.(1", "0+", "b", "b1", "b2;", "0=1;1", "x", "0=1;;"}) {
      type(text);
      check.badArgument("11 " + text, () -> x.enter());
      check.answers("11 the buffer stays", text.length(), () -> x.clearBuffer());
    }
    check.answers("11 not saved", 0, () -> x.savedStates());
    check.answers("11 all", 5, () -> enter("0=12.3(4);1=0.(5);b10;2=12.3(4);3=0.(12)"));
    has(0, 259, 30);
    has(1, 1, 1);
    has(2, 1111, 90);
    has(3, 4, 33);
    check.answers("11 cleared", 0, () -> x.clearBuffer());
    check.answers("11 one call", 1, () -> x.savedStates());
    x.undo();
    has(0, 0, 1);
    check.answers("11 undone", 6, () -> x.base());
    check.answers("11 sums", 4, () -> enter("0=5;1=3;0+1;0-1"));
    has(0, 5, 1);
    check.answers("11 itself", 2, () -> enter("0+0;1-1"));
    has(0, 10, 1);
    has(1, 0, 1);
    check.answers("11 nothing done", 0, () -> enter("1-0;0=1"));
    has(0, 10, 1);
    check.answers("11 saved too", 3, () -> x.savedStates());
    check.answers("11 up to the stop", 2, () -> enter("b2;0=1.1;1=2;2=1"));
    check.answers("11 base in the text", 2, () -> x.base());
    has(0, 3, 2);
    has(2, 0, 1);
    check.answers("11 base first", 3, () -> enter("0=1;b16;0=3b9ac9ff"));
    has(0, 999999999, 1);
    check.answers("11 great in 16", 0, () -> enter("0=ffffffff.(ffff)"));
    check.answers("11 16 nines", 1, () -> enter("0=fffffff.ffff(f)"));
    has(0, 1 << 28, 1);
    check.answers("11 no rest", 1, () -> enter("0=a.0(0)"));
    has(0, 10, 1);
  }

  private void stops(String text, int part, int why) {
    enter(text);
    check.same("12 " + text, "true", Check.outcome(() -> x.hasStopped()));
    check.answers("13 " + text, part, () -> x.stoppedPart());
    check.answers("14 " + text, why, () -> x.whyStopped());
  }

  private void goesOn() {
    check.same("12 goes on", "false", Check.outcome(() -> x.hasStopped()));
    check.badState("13 goes on", () -> x.stoppedPart());
    check.badState("14 goes on", () -> x.whyStopped());
  }

  private void promise12To14() {
    fresh();
    goesOn();
    stops("0=6", 0, 1);
    stops("0=1;0=0.(6)", 1, 1);
    stops("0=0.6(1)", 0, 1);
    stops("b9;0=88888888.9", 1, 1);
    stops("b16;b2;0=1;0=2", 3, 1);
    stops("b16;0=ffffffff.ffff(fffe)", 1, 2);
    stops("0=ffffffff", 0, 2);
    stops("0=0.001", 0, 2);
    stops("b10;0=10000000;0+0;0+0;0+0;0+0;0+0;0+0;0+0", 8, 2);
    stops("0=0.(001);1=0.5;0+1", 2, 2);
    stops("0=1;1=2;0-1", 2, 3);
    // The difference is below 0, and its denominator too great.
    x.setFraction(0, 1, 997);
    x.setFraction(1, 1, 991);
    stops("0-1", 0, 3);
    stops("1-0", 0, 2);
    type("0=");
    check.badArgument("12 thrown", () -> x.enter());
    check.answers("12 a call that throws changes nothing", 2, () -> x.whyStopped());
    enter("0=1");
    goesOn();
    check.answers("12 undo", 5, () -> x.undo());
    check.answers("12 the stop is back", 2, () -> x.whyStopped());
    x.keep();
    enter("0=1;1=2;0-1");
    x.restore();
    check.answers("12 the stop of the snapshot", 2, () -> x.whyStopped());
    check.answers("13 the stop of the snapshot", 0, () -> x.stoppedPart());
    x.undo();
    check.answers("12 the stop before", 3, () -> x.whyStopped());
    check.answers("13 the stop before", 2, () -> x.stoppedPart());
    x.setFraction(0, 1, 1);
    check.answers("13 other changes leave it", 2, () -> x.stoppedPart());
  }

  private void promise15And18() {
    fresh();
    check.badState("15 none", () -> x.undo());
    for (int count = 1; count <= 8; count++) {
      x.setFraction(0, count, 1);
      check.answers("18 saved", Math.min(count, 6), () -> x.savedStates());
    }
    type("b2");
    for (int left = 5; left >= 0; left--) {
      check.answers("15 left", left, () -> x.undo());
      has(0, left + 2, 1);
    }
    check.badState("15 the oldest are dropped", () -> x.undo());
    check.answers("15 the buffer stays", 2, () -> x.clearBuffer());
    x.setBase(3);
    x.setBase(4);
    check.answers("15 again", 1, () -> x.undo());
    check.answers("15 base", 3, () -> x.base());
    check.answers("15 again", 0, () -> x.undo());
    check.answers("15 base", 6, () -> x.base());
  }

  private void promise16And17() {
    fresh();
    check.badState("17 none", () -> x.restore());
    x.setBase(7);
    x.setFraction(2, 2, 3);
    check.answers("16 base", 7, () -> x.keep());
    check.answers("16 not undoable", 2, () -> x.savedStates());
    x.setBase(9);
    x.setFraction(2, 1, 3);
    type("0=1");
    check.answers("17 base", 7, () -> x.restore());
    has(2, 2, 3);
    check.answers("17 the buffer stays", 3, () -> x.clearBuffer());
    check.answers("17 undoable", 5, () -> x.savedStates());
    check.answers("17 undone", 4, () -> x.undo());
    check.answers("17 undone", 9, () -> x.base());
    has(2, 1, 3);
    check.answers("17 it stays", 7, () -> x.restore());
    x.setBase(5);
    x.keep();
    x.setBase(4);
    check.answers("16 in place of the one before", 5, () -> x.restore());
    x.undo();
    x.undo();
    check.answers("16 undo leaves the snapshot", 5, () -> x.restore());
  }

  private void promise19To22() {
    fresh();
    x.setFraction(4, 100, 30);
    has(4, 10, 3);
    check.answers("22 whole", 3, () -> x.whole(4));
    x.setFraction(4, 998, 999);
    check.answers("22 none", 0, () -> x.whole(4));
    x.setFraction(4, 999999999, 1);
    check.answers("22 greatest", 999999999, () -> x.whole(4));
    for (int account : NO_ACCOUNTS) {
      check.noPlace("20", () -> x.numerator(account));
      check.noPlace("21", () -> x.denominator(account));
      check.noPlace("22", () -> x.whole(account));
    }
    check.answers("19", 6, () -> x.base());
    x.setBase(11);
    check.answers("19", 11, () -> x.base());
    check.answers("19 looks save nothing", 4, () -> x.savedStates());
  }

  private void promise23() {
    fresh();
    x.setFraction(0, 1, 3);
    x.setFraction(1, 333, 998);
    x.setFraction(2, 2, 6);
    x.setFraction(3, 999999999, 998);
    x.setFraction(4, 999999998, 997);
    check.answers("23 less", -1, () -> x.compare(0, 1));
    check.answers("23 greater", 1, () -> x.compare(1, 0));
    check.answers("23 alike", 0, () -> x.compare(0, 2));
    check.answers("23 itself", 0, () -> x.compare(5, 5));
    check.answers("23 great", -1, () -> x.compare(3, 4));
    for (int account : NO_ACCOUNTS) {
      check.noPlace("23", () -> x.compare(account, 0));
      check.noPlace("23", () -> x.compare(0, account));
    }
  }

  private void promise24() {
    fresh();
    check.answers("24 all alike", 0, () -> x.richest());
    x.setFraction(5, 1, 999);
    check.answers("24 last", 5, () -> x.richest());
    x.setFraction(3, 1, 2);
    x.setFraction(4, 2, 4);
    check.answers("24 lowest of two", 3, () -> x.richest());
    x.setFraction(1, 3, 5);
    check.answers("24 fraction, not numerator", 1, () -> x.richest());
    x.setFraction(0, 300, 600);
    check.answers("24 still", 1, () -> x.richest());
  }

  private void promise25To27() {
    fresh();
    check.answers("25 of 0", 1, () -> x.wholeDigits(0));
    check.answers("26 of 0", 0, () -> x.wholeDigit(0, 0));
    check.answers("27 of 0", 0, () -> x.wholeDigitByPowers(0, 0));
    x.setFraction(0, 216 * 5 + 36 * 4 + 6 * 3 + 2, 1);
    check.answers("25", 4, () -> x.wholeDigits(0));
    for (int column = 0; column < 4; column++) {
      int at = column;
      check.answers("26", 2 + column, () -> x.wholeDigit(0, at));
      check.answers("27", 2 + column, () -> x.wholeDigitByPowers(0, at));
    }
    x.setFraction(1, 35 * 7 + 6, 7);
    check.answers("25 two", 2, () -> x.wholeDigits(1));
    x.setFraction(1, 36, 1);
    check.answers("25 three", 3, () -> x.wholeDigits(1));
    check.answers("27 of 100", 1, () -> x.wholeDigitByPowers(1, 2));
    check.answers("27 of 100", 0, () -> x.wholeDigitByPowers(1, 0));
    for (int column : new int[] {Integer.MIN_VALUE, -1, 3, 100, Integer.MAX_VALUE}) {
      check.noPlace("26", () -> x.wholeDigit(1, column));
      check.noPlace("27", () -> x.wholeDigitByPowers(1, column));
    }
    for (int account : NO_ACCOUNTS) {
      check.noPlace("25", () -> x.wholeDigits(account));
      check.noPlace("26", () -> x.wholeDigit(account, 0));
      check.noPlace("27", () -> x.wholeDigitByPowers(account, 0));
    }
    x.setFraction(2, 999999999, 1);
    x.setBase(2);
    check.answers("25 greatest", 30, () -> x.wholeDigits(2));
    check.answers("26 last", 1, () -> x.wholeDigit(2, 29));
    x.setBase(16);
    check.answers("25 in 16", 8, () -> x.wholeDigits(2));
    check.answers("26 b", 11, () -> x.wholeDigit(2, 6));
    check.answers("27 b", 11, () -> x.wholeDigitByPowers(2, 6));
  }

  private void promise28To30() {
    fresh();
    check.answers("28 of 0", 0, () -> x.digitSum(0));
    x.setFraction(0, 2 * (216 * 5 + 36 * 5 + 6 * 5 + 4) + 1, 2);
    check.answers("28", 19, () -> x.digitSum(0));
    check.answers("29", 4, () -> x.leftByDigits(0));
    check.answers("30", 4, () -> x.leftByDividing(0));
    x.setBase(16);
    x.setFraction(1, 999999999, 1);
    check.answers("28 3b9ac9ff", 3 + 11 + 9 + 10 + 12 + 9 + 15 + 15, () -> x.digitSum(1));
    check.answers("29", 84 % 15, () -> x.leftByDigits(1));
    check.answers("30", 84 % 15, () -> x.leftByDividing(1));
    x.setBase(2);
    check.answers("29 by 1", 0, () -> x.leftByDigits(1));
    check.answers("30 by 1", 0, () -> x.leftByDividing(1));
    for (int account : NO_ACCOUNTS) {
      check.noPlace("28", () -> x.digitSum(account));
      check.noPlace("29", () -> x.leftByDigits(account));
      check.noPlace("30", () -> x.leftByDividing(account));
    }
  }

  private void behind(int numerator, int denominator, int head, int period, String text) {
    x.setFraction(0, numerator, denominator);
    check.answers("31 " + text, head, () -> x.headLength(0));
    check.answers("32 " + text, period, () -> x.periodLength(0));
    check.answers("33 " + text, period, () -> x.periodByOrder(0));
    check.same("37 " + text, text, written(0));
    check.answers("36 " + text, text.length(), () -> x.writtenLength(0));
    check.noPlace("37 behind " + text, () -> x.writtenAt(0, text.length()));
  }

  private void promise31To33() {
    fresh();
    behind(12, 1, 0, 0, "20");
    behind(7, 2, 1, 0, "3.3");
    behind(1, 5, 0, 1, "0.(1)");
    behind(1, 7, 0, 2, "0.(05)");
    behind(1, 10, 1, 1, "0.0(3)");
    behind(1, 4, 2, 0, "0.13");
    x.setBase(10);
    behind(22, 7, 0, 6, "3.(142857)");
    behind(1, 12, 2, 1, "0.08(3)");
    behind(5, 8, 3, 0, "0.625");
    x.setBase(16);
    behind(999999999, 1, 0, 0, "3b9ac9ff");
    behind(43, 16, 1, 0, "2.b");
    behind(10, 3, 0, 1, "3.(5)");
    x.setBase(2);
    behind(1, 512, 9, 0, "0.000000001");
    behind(1, 6, 1, 2, "0.0(01)");
    x.setFraction(0, 1, 947);
    check.answers("32 longest", 946, () -> x.periodLength(0));
    check.answers("33 longest", 946, () -> x.periodByOrder(0));
    for (int account : NO_ACCOUNTS) {
      check.noPlace("31", () -> x.headLength(account));
      check.noPlace("32", () -> x.periodLength(account));
      check.noPlace("33", () -> x.periodByOrder(account));
    }
  }

  private void promise34() {
    String period = "141592920353982300884955752212389380530973451327433628318584"
        + "0707964601769911504424778761061946902654867256637168";
    for (int place = 0; place <= 2000; place++) {
      if (place % 500 == 0) {
        fresh();
        x.setBase(10);
        x.setFraction(0, 355, 113);
      }
      int at = place;
      check.answers("34 " + place, period.charAt(place % 112) - '0', () -> x.digitBehind(0, at));
    }
    x.setFraction(1, 5, 8);
    for (int place : new int[] {0, 1, 2, 3, 4, 2000}) {
      int due = place == 0 ? 6 : place == 1 ? 2 : place == 2 ? 5 : 0;
      check.answers("34 of 0.625", due, () -> x.digitBehind(1, place));
    }
    check.answers("34 of nothing", 0, () -> x.digitBehind(2, 0));
    for (int place : new int[] {Integer.MIN_VALUE, -1, 2001, Integer.MAX_VALUE}) {
      check.badArgument("34 place", () -> x.digitBehind(0, place));
    }
    for (int account : NO_ACCOUNTS) {
      check.noPlace("34", () -> x.digitBehind(account, -1));
    }
  }

  private void shortest(int numerator, int denominator, int due) {
    x.setFraction(3, numerator, denominator);
    check.answers("35 of " + numerator + "/" + denominator, due, () -> x.shortestBase(3));
  }

  private void promise35() {
    fresh();
    shortest(0, 1, 2);
    shortest(77, 1, 2);
    shortest(1, 2, 2);
    shortest(1, 3, 3);
    shortest(7, 4, 4);
    shortest(1, 5, 5);
    shortest(1, 6, 6);
    shortest(1, 7, 7);
    shortest(1, 8, 8);
    shortest(1, 9, 9);
    shortest(1, 24, 5);
    shortest(1, 48, 7);
    shortest(1, 36, 6);
    shortest(1, 17, 16);
    shortest(1, 91, 14);
    shortest(1, 999, 10);
    x.setBase(2);
    shortest(1, 999, 10);
    for (int account : NO_ACCOUNTS) {
      check.noPlace("35", () -> x.shortestBase(account));
    }
  }

  private void promise36And37() {
    fresh();
    check.answers("36 of 0", 1, () -> x.writtenLength(1));
    check.answers("37 of 0", '0', () -> x.writtenAt(1, 0));
    for (int place : new int[] {Integer.MIN_VALUE, -1, 1, Integer.MAX_VALUE}) {
      check.noPlace("37", () -> x.writtenAt(1, place));
    }
    for (int account : NO_ACCOUNTS) {
      check.noPlace("36", () -> x.writtenLength(account));
      check.noPlace("37", () -> x.writtenAt(account, 0));
    }
  }

  private void sum(int base, int one, int other, int carries, int chain, int... digits) {
    x.setBase(base);
    x.setFraction(0, 2 * one + 1, 2);
    x.setFraction(1, other, 1);
    String what = " of " + one + " + " + other + " in " + base;
    check.answers("38" + what, carries, () -> x.carries(0, 1));
    check.answers("39" + what, chain, () -> x.longestChain(1, 0));
    for (int column = 0; column < digits.length; column++) {
      int at = column;
      check.answers("40" + what, digits[column], () -> x.sumDigit(0, 1, at));
    }
    check.noPlace("40" + what, () -> x.sumDigit(0, 1, digits.length));
    check.noPlace("40" + what, () -> x.sumDigit(0, 1, -1));
    check.answers("41" + what, one + other, () -> x.sumByColumns(0, 1));
  }

  private void promise38To41() {
    fresh();
    sum(6, 0, 0, 0, 0, 0);
    sum(6, 5, 1, 1, 1, 0, 1);
    sum(6, 35, 1, 2, 2, 0, 0, 1);
    sum(10, 1999, 2, 3, 3, 1, 0, 0, 2);
    sum(10, 909, 101, 2, 1, 0, 1, 0, 1);
    sum(10, 90999, 10901, 4, 3, 0, 0, 9, 1, 0, 1);
    sum(10, 99, 900, 0, 0, 9, 9, 9);
    sum(16, 255, 1, 2, 2, 0, 0, 1);
    sum(2, 5, 3, 3, 3, 0, 0, 0, 1);
    x.setFraction(2, 999999999, 1);
    check.answers("41 itself, greatest", 1999999998L, () -> x.sumByColumns(2, 2));
    check.answers("40 the column of the carry", 1, () -> x.sumDigit(2, 2, 30));
    check.noPlace("40 behind it", () -> x.sumDigit(2, 2, 31));
    check.answers("38 itself", Integer.bitCount(999999999), () -> x.carries(2, 2));
    for (int account : NO_ACCOUNTS) {
      check.noPlace("38", () -> x.carries(account, 0));
      check.noPlace("38", () -> x.carries(0, account));
      check.noPlace("39", () -> x.longestChain(account, 0));
      check.noPlace("39", () -> x.longestChain(0, account));
      check.noPlace("40", () -> x.sumDigit(account, 0, 0));
      check.noPlace("40", () -> x.sumDigit(0, account, 0));
      check.noPlace("41", () -> x.sumByColumns(account, 0));
      check.noPlace("41", () -> x.sumByColumns(0, account));
    }
  }

  private void promise42() {
    fresh();
    x.setFraction(0, 2 * 216 + 5 * 6 + 1, 1);
    check.answers("42 2051 in 10", 2051, () -> x.readIn(0, 10));
    check.answers("42 2051 in 16", 0x2051, () -> x.readIn(0, 16));
    check.answers("42 2051 in 6", 463, () -> x.readIn(0, 6));
    check.answers("42 2051 in 5", -1, () -> x.readIn(0, 5));
    check.answers("42 nothing", 0, () -> x.readIn(1, 2));
    x.setBase(2);
    x.setFraction(1, 1 << 15, 1);
    check.answers("42 a power", 35184372088832L, () -> x.readIn(1, 8));
    x.setFraction(1, 1 << 14, 1);
    check.answers("42 15^14 is too great", -1, () -> x.readIn(1, 15));
    x.setFraction(1, 1 << 15, 1);
    check.answers("42 10^15 is too great", -1, () -> x.readIn(1, 10));
    x.setFraction(1, (1 << 15) - 1, 1);
    check.answers("42 15 ones", 111111111111111L, () -> x.readIn(1, 10));
    x.setFraction(1, 999999999, 1);
    check.answers("42 far too great", -1, () -> x.readIn(1, 16));
    for (int base : NO_BASES) {
      check.badArgument("42", () -> x.readIn(1, base));
    }
    for (int account : NO_ACCOUNTS) {
      check.noPlace("42", () -> x.readIn(account, 0));
    }
  }

  private void promise43() {
    fresh();
    x.setFraction(0, 999999999, 1);
    x.setFraction(1, 1, 1);
    x.setFraction(2, 1, 997);
    x.setFraction(3, 1, 991);
    check.answers("43 it can", 0, () -> x.whyNoSum(1, 2));
    check.answers("43 with nothing", 0, () -> x.whyNoSum(0, 5));
    check.answers("43 numerator", 1, () -> x.whyNoSum(0, 1));
    check.answers("43 denominator", 2, () -> x.whyNoSum(2, 3));
    check.answers("43 itself", 1, () -> x.whyNoSum(0, 0));
    x.setFraction(4, 999999999, 997);
    check.answers("43 both", 1, () -> x.whyNoSum(4, 3));
    for (int account : NO_ACCOUNTS) {
      check.noPlace("43", () -> x.whyNoSum(account, 0));
      check.noPlace("43", () -> x.whyNoSum(0, account));
    }
  }

  private void promise44() {
    fresh();
    x.setFraction(0, 1, 10);
    x.setFraction(1, 2, 5);
    check.answers("44 the period goes", 0, () -> x.periodOfSum(0, 1));
    check.answers("44 nothing", 0, () -> x.periodOfSum(4, 5));
    x.setFraction(2, 1, 7);
    check.answers("44 of both", 2, () -> x.periodOfSum(1, 2));
    check.answers("44 itself", 1, () -> x.periodOfSum(0, 0));
    x.setBase(10);
    x.setFraction(3, 1, 983);
    x.setFraction(4, 1, 977);
    check.answers("44 of 1/983 + 1/977", 982L * 976 / 2, () -> x.periodOfSum(3, 4));
    x.setFraction(3, 1, 997);
    x.setFraction(4, 1, 991);
    check.answers("44 of 1/997 + 1/991", 166L * 495, () -> x.periodOfSum(3, 4));
    x.setFraction(3, 999999999, 997);
    check.answers("44 however great", 166L * 495, () -> x.periodOfSum(3, 4));
    for (int account : NO_ACCOUNTS) {
      check.noPlace("44", () -> x.periodOfSum(account, 0));
      check.noPlace("44", () -> x.periodOfSum(0, account));
    }
  }

  private void promise45() {
    fresh();
    check.same("45 of nothing", "0.0", Check.outcome(() -> x.shareOf(0)));
    x.setFraction(0, 1, 2);
    check.same("45 of all", "1.0", Check.outcome(() -> x.shareOf(0)));
    x.setFraction(1, 3, 2);
    check.same("45", "0.25", Check.outcome(() -> x.shareOf(0)));
    check.same("45", "0.75", Check.outcome(() -> x.shareOf(1)));
    x.setFraction(2, 1, 3);
    x.setFraction(3, 1, 7);
    x.setFraction(4, 1, 10);
    double all = 0.5 + 1.5 + 1.0 / 3 + 1.0 / 7 + 1.0 / 10;
    check.same("45 rounded", 1.0 / 7 / all, x.shareOf(3));
    check.same("45 none of it", "0.0", Check.outcome(() -> x.shareOf(5)));
    for (int account : NO_ACCOUNTS) {
      check.noPlace("45", () -> x.shareOf(account));
    }
  }

  private void replay(String... calls) throws ReflectiveOperationException {
    fresh();
    Script.run(x, calls);
  }

  /** The digest from the face alone, in the order that the document tells. */
  private long digestByFace(String buffer, String... calls) throws ReflectiveOperationException {
    replay(calls);
    long h = 4513;
    h = 31 * (31 * (31 * h + x.base()) + x.richest()) + x.savedStates();
    for (int a = 0; a < 6; a++) {
      replay(calls);
      h = 31 * (31 * (31 * h + x.numerator(a)) + x.denominator(a)) + x.whole(a);
      h = 31 * h + x.wholeDigits(a);
      for (int c = 0; c < x.wholeDigits(a); c++) {
        h = 31 * (31 * h + x.wholeDigit(a, c)) + x.wholeDigitByPowers(a, c);
      }
      h = 31 * (31 * (31 * h + x.digitSum(a)) + x.leftByDigits(a)) + x.leftByDividing(a);
      h = 31 * (31 * (31 * h + x.headLength(a)) + x.periodLength(a)) + x.periodByOrder(a);
      for (int place = 0; place < 10; place++) {
        h = 31 * h + x.digitBehind(a, place);
      }
      h = 31 * (31 * h + x.shortestBase(a)) + x.readIn(a, 16);
      int length = x.writtenLength(a);
      h = 31 * (31 * h + length) + x.writtenAt(a, length - 1);
    }
    for (int a = 0; a < 6; a++) {
      replay(calls);
      h = digestOfPair(h, a, (a + 1) % 6);
    }
    replay(calls);
    for (int a = 0; a < 6; a++) {
      h = 31 * h + Double.doubleToLongBits(x.shareOf(a));
    }
    h = 31 * h + (x.hasStopped() ? 1 : 0);
    h = x.hasStopped() ? 31 * (31 * h + x.stoppedPart()) + x.whyStopped() : h;
    h = 31 * h + buffer.length();
    for (char c : buffer.toCharArray()) {
      h = 31 * h + c;
    }
    return h;
  }

  private long digestOfPair(long start, int a, int b) {
    long h = 31 * (31 * start + x.carries(a, b)) + x.longestChain(a, b);
    long sum = x.sumByColumns(a, b);
    int columns = Long.toString(sum, x.base()).length();
    for (int c = 0; c < columns; c++) {
      h = 31 * h + x.sumDigit(a, b, c);
    }
    h = 31 * (31 * h + sum) + x.whyNoSum(a, b);
    return 31 * (31 * h + x.periodOfSum(a, b)) + x.compare(a, b);
  }

  private void digest(String buffer, String... calls) throws ReflectiveOperationException {
    long due = digestByFace(buffer, calls);
    check.answers("46 with " + buffer, due, () -> x.digest());
    check.answers("46 changes nothing", due, () -> x.digest());
  }

  private void promise46() throws ReflectiveOperationException {
    String one = "setFraction 0 999999999 7";
    String two = "setFraction 1 1 999";
    String three = "setFraction 5 12345678 64";
    String four = "type 2=0.(5);0-0;1=6";
    digest("");
    digest("0=1.(2)", "type 0=1.(2)");
    digest("", one, two, three);
    digest("b16;", one, two, three, four, "enter", "type b16;");
    for (int base = 2; base <= 16; base++) {
      digest("~", one, two, three, four, "enter", "setBase " + base, "append 126");
    }
    digest("", one, two, three, "setBase 9", "undo", "keep");
    digest("", one, two, three, "setBase 9", "undo", "keep", "setBase 2", "restore");
  }
}
