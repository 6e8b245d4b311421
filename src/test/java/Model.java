import java.math.BigInteger;
import java.util.ArrayDeque;
import java.util.Deque;
import java.util.HashMap;
import java.util.Map;
import java.util.regex.Matcher;
import java.util.regex.Pattern;

/**
 * The document once more, by other means than the program's: texts for digits, a map of the rests
 * that were there, a regular expression for entries. Speed and room do not matter here.
 */
final class Model {
  private static final BigInteger MOST_NUMERATOR = BigInteger.valueOf(999999999);
  private static final BigInteger MOST_DENOMINATOR = BigInteger.valueOf(999);
  private static final String PERIOD = "\\([0-9a-f]{1,4}\\)";
  private static final String NUMBER =
      "(?:0|[1-9a-f][0-9a-f]{0,7})(?:\\.(?:[0-9a-f]{1,4}(?:" + PERIOD + ")?|" + PERIOD + "))?";
  private static final String PART =
      "(?:[0-5](?:=" + NUMBER + "|[+-][0-5])|b(?:[2-9]|1[0-6]))";
  private static final Pattern ENTRIES = Pattern.compile(PART + "(?:;" + PART + ")*");

  /** A fraction with the least denominator. */
  record Fraction(BigInteger top, BigInteger bottom) {
    static Fraction of(BigInteger top, BigInteger bottom) {
      BigInteger common = top.gcd(bottom);
      return new Fraction(top.divide(common), bottom.divide(common));
    }

    static Fraction of(long top, long bottom) {
      return of(BigInteger.valueOf(top), BigInteger.valueOf(bottom));
    }

    Fraction plus(Fraction o) {
      return of(top.multiply(o.bottom).add(o.top.multiply(bottom)), bottom.multiply(o.bottom));
    }

    Fraction minus(Fraction o) {
      return plus(new Fraction(o.top.negate(), o.bottom));
    }

    Fraction times(Fraction o) {
      return of(top.multiply(o.top), bottom.multiply(o.bottom));
    }

    /** 0 possible, 3 below 0, 2 too great. */
    int why() {
      if (top.signum() < 0) {
        return 3;
      }
      return top.compareTo(MOST_NUMERATOR) > 0 || bottom.compareTo(MOST_DENOMINATOR) > 0 ? 2 : 0;
    }

    double asDouble() {
      return (double) top.longValue() / bottom.longValue();
    }
  }

  record State(int base, Fraction[] accounts, int part, int why) {
    State copy() {
      return new State(base, accounts.clone(), part, why);
    }
  }

  /** The digits of a rest: a head, and a period that may be empty. */
  record Tail(String head, String period) {
    static Tail of(Fraction f, int base) {
      long bottom = f.bottom.longValueExact();
      long rest = f.top.mod(f.bottom).longValueExact();
      Map<Long, Integer> seen = new HashMap<>();
      StringBuilder digits = new StringBuilder();
      while (rest != 0 && !seen.containsKey(rest)) {
        seen.put(rest, digits.length());
        digits.append(Character.forDigit((int) (rest * base / bottom), 16));
        rest = rest * base % bottom;
      }
      int head = rest == 0 ? digits.length() : seen.get(rest);
      return new Tail(digits.substring(0, head), digits.substring(head));
    }

    int length() {
      return head.length() + period.length();
    }
  }

  /** Two whole parts, added column by column; the digits from the column 0 on. */
  record Sum(String digits, String carried) {
    static Sum of(String one, String two, int base) {
      StringBuilder digits = new StringBuilder();
      StringBuilder carried = new StringBuilder();
      int carry = 0;
      for (int c = 0; c < Math.max(one.length(), two.length()); c++) {
        int together = at(one, c) + at(two, c) + carry;
        carry = together >= base ? 1 : 0;
        carried.append(carry);
        digits.append(Character.forDigit(together % base, 16));
      }
      if (carry == 1) {
        digits.append('1');
      }
      return new Sum(digits.toString(), carried.toString());
    }

    private static int at(String digits, int column) {
      int index = digits.length() - 1 - column;
      return index < 0 ? 0 : Character.digit(digits.charAt(index), 16);
    }
  }

  private State now = new State(6, new Fraction[6], 0, 0);
  private State snapshot = null;
  private final Deque<State> saved = new ArrayDeque<>();
  private final StringBuilder buffer = new StringBuilder();

  public Model() {
    java.util.Arrays.fill(now.accounts, Fraction.of(0, 1));
  }

  private void save() {
    saved.addLast(now.copy());
    if (saved.size() > 6) {
      saved.removeFirst();
    }
  }

  private Fraction at(int account) {
    if (account < 0 || account > 5) {
      throw new IndexOutOfBoundsException();
    }
    return now.accounts[account];
  }

  private static void range(int value, int least, int most) {
    if (value < least || value > most) {
      throw new IllegalArgumentException();
    }
  }

  private void put(int account, Fraction f) {
    if (f.why() != 0) {
      throw new IllegalStateException();
    }
    save();
    now.accounts[account] = f;
  }

  private void rebase(int base) {
    now = new State(base, now.accounts, now.part, now.why);
  }

  public int setBase(int base) {
    range(base, 2, 16);
    save();
    int before = now.base;
    rebase(base);
    return before;
  }

  public int setFraction(int account, int numerator, int denominator) {
    at(account);
    range(numerator, 0, 999999999);
    range(denominator, 1, 999);
    put(account, Fraction.of(numerator, denominator));
    return denominator(account);
  }

  public int add(int account, int other) {
    put(account, both(account, other));
    return numerator(account);
  }

  public int subtract(int account, int other) {
    Fraction left = at(account).minus(at(other));
    put(account, left);
    return numerator(account);
  }

  public int shift(int account, int digits) {
    Fraction f = at(account);
    range(digits, -3, 3);
    int factor = BigInteger.valueOf(now.base).pow(Math.abs(digits)).intValueExact();
    put(account, f.times(digits < 0 ? Fraction.of(1, factor) : Fraction.of(factor, 1)));
    return denominator(account);
  }

  public int pay(int account, int other, int coins) {
    Fraction paying = at(account);
    Fraction paid = at(other);
    range(account == other ? 0 : 1, 1, 1);
    range(coins, 1, 999999);
    Fraction less = paying.minus(Fraction.of(coins, 1));
    Fraction more = paid.plus(Fraction.of(coins, 1));
    if (less.why() != 0 || more.why() != 0) {
      throw new IllegalStateException();
    }
    put(account, less);
    now.accounts[other] = more;
    return numerator(account);
  }

  public int append(int code) {
    range(code, 33, 126);
    if (buffer.length() == 60) {
      throw new IllegalStateException();
    }
    buffer.append((char) code);
    return buffer.length();
  }

  public int clearBuffer() {
    int length = buffer.length();
    buffer.setLength(0);
    return length;
  }

  public int firstError() {
    for (int length = 1; length <= buffer.length(); length++) {
      Matcher matcher = ENTRIES.matcher(buffer.substring(0, length));
      if (!matcher.matches() && !matcher.hitEnd()) {
        return length - 1;
      }
    }
    return buffer.length();
  }

  public int enter() {
    if (!ENTRIES.matcher(buffer).matches()) {
      throw new IllegalArgumentException();
    }
    save();
    int done = 0;
    int why = 0;
    for (String part : buffer.toString().split(";")) {
      why = doPart(part);
      if (why != 0) {
        break;
      }
      done++;
    }
    now = new State(now.base, now.accounts, why == 0 ? 0 : done, why);
    buffer.setLength(0);
    return done;
  }

  private int doPart(String part) {
    if (part.charAt(0) == 'b') {
      rebase(Integer.parseInt(part.substring(1)));
      return 0;
    }
    int account = part.charAt(0) - '0';
    Fraction f;
    if (part.charAt(1) == '=') {
      String number = part.substring(2);
      for (char c : number.toCharArray()) {
        if (Character.digit(c, 16) >= now.base) {
          return 1;
        }
      }
      f = read(number);
    } else if (part.charAt(1) == '+') {
      f = both(account, part.charAt(2) - '0');
    } else {
      f = at(account).minus(at(part.charAt(2) - '0'));
    }
    if (f.why() == 0) {
      now.accounts[account] = f;
    }
    return f.why();
  }

  /** Each piece shifted to its place: w.h(p) is w + h / b^m + p / (b^m (b^n - 1)). */
  private Fraction read(String number) {
    String[] pieces = number.replace(")", "").split("[.(]", -1);
    int point = number.indexOf('.');
    int open = number.indexOf('(');
    Fraction f = Fraction.of(new BigInteger(pieces[0], now.base), BigInteger.ONE);
    if (point < 0) {
      return f;
    }
    String head = pieces[1];
    BigInteger scale = BigInteger.valueOf(now.base).pow(head.length());
    if (!head.isEmpty()) {
      f = f.plus(Fraction.of(new BigInteger(head, now.base), scale));
    }
    if (open >= 0) {
      String period = pieces[2];
      BigInteger nines = BigInteger.valueOf(now.base).pow(period.length()).subtract(BigInteger.ONE);
      f = f.plus(Fraction.of(new BigInteger(period, now.base), scale.multiply(nines)));
    }
    return f;
  }

  public boolean hasStopped() {
    return now.why != 0;
  }

  public int stoppedPart() {
    whyStopped();
    return now.part;
  }

  public int whyStopped() {
    if (!hasStopped()) {
      throw new IllegalStateException();
    }
    return now.why;
  }

  public int undo() {
    if (saved.isEmpty()) {
      throw new IllegalStateException();
    }
    now = saved.removeLast();
    return saved.size();
  }

  public int keep() {
    snapshot = now.copy();
    return now.base;
  }

  public int restore() {
    if (snapshot == null) {
      throw new IllegalStateException();
    }
    save();
    now = snapshot.copy();
    return now.base;
  }

  public int savedStates() {
    return saved.size();
  }

  public int base() {
    return now.base;
  }

  public int numerator(int account) {
    return at(account).top.intValueExact();
  }

  public int denominator(int account) {
    return at(account).bottom.intValueExact();
  }

  public int whole(int account) {
    return at(account).top.divide(at(account).bottom).intValueExact();
  }

  public int compare(int account, int other) {
    return at(account).minus(at(other)).top.signum();
  }

  public int richest() {
    int best = 0;
    for (int account = 5; account >= 0; account--) {
      best = compare(account, best) >= 0 ? account : best;
    }
    return best;
  }

  private String wholeText(int account) {
    return Integer.toString(whole(account), now.base);
  }

  private static int digit(String digits, int index) {
    if (index < 0 || index >= digits.length()) {
      throw new IndexOutOfBoundsException();
    }
    return Character.digit(digits.charAt(index), 16);
  }

  public int wholeDigits(int account) {
    return wholeText(account).length();
  }

  public int wholeDigit(int account, int column) {
    at(account);
    String text = wholeText(account);
    return digit(text, column < 0 ? -1 : text.length() - 1 - column);
  }

  public int wholeDigitByPowers(int account, int column) {
    return wholeDigit(account, column);
  }

  public int digitSum(int account) {
    return wholeText(account).chars().map(c -> Character.digit(c, 16)).sum();
  }

  public int leftByDigits(int account) {
    return whole(account) % (now.base - 1);
  }

  public int leftByDividing(int account) {
    return leftByDigits(account);
  }

  public int headLength(int account) {
    return Tail.of(at(account), now.base).head.length();
  }

  public int periodLength(int account) {
    return Tail.of(at(account), now.base).period.length();
  }

  public int periodByOrder(int account) {
    return periodLength(account);
  }

  public int digitBehind(int account, int place) {
    Tail tail = Tail.of(at(account), now.base);
    range(place, 0, 2000);
    int head = tail.head.length();
    if (place < head) {
      return digit(tail.head, place);
    }
    return tail.period.isEmpty() ? 0 : digit(tail.period, (place - head) % tail.period.length());
  }

  public int shortestBase(int account) {
    int best = 2;
    for (int base = 3; base <= 16; base++) {
      if (Tail.of(at(account), base).length() < Tail.of(at(account), best).length()) {
        best = base;
      }
    }
    return best;
  }

  private String written(int account) {
    Tail tail = Tail.of(at(account), now.base);
    String text = wholeText(account);
    text += tail.length() == 0 ? "" : "." + tail.head;
    return text + (tail.period.isEmpty() ? "" : "(" + tail.period + ")");
  }

  public int writtenLength(int account) {
    return written(account).length();
  }

  public int writtenAt(int account, int place) {
    String text = written(account);
    if (place < 0 || place >= text.length()) {
      throw new IndexOutOfBoundsException();
    }
    return text.charAt(place);
  }

  private Sum columns(int account, int other) {
    return Sum.of(wholeText(account), wholeText(other), now.base);
  }

  public int carries(int account, int other) {
    return columns(account, other).carried.replace("0", "").length();
  }

  public int longestChain(int account, int other) {
    int longest = 0;
    for (String chain : columns(account, other).carried.split("0")) {
      longest = Math.max(longest, chain.length());
    }
    return longest;
  }

  public int sumDigit(int account, int other, int column) {
    return digit(columns(account, other).digits, column);
  }

  public long sumByColumns(int account, int other) {
    return (long) whole(account) + whole(other);
  }

  public long readIn(int account, int base) {
    at(account);
    range(base, 2, 16);
    BigInteger sum = BigInteger.ZERO;
    for (int column = 0; column < wholeDigits(account); column++) {
      if (wholeDigit(account, column) >= base) {
        return -1;
      }
      BigInteger power = BigInteger.valueOf(base).pow(column);
      sum = sum.add(power.multiply(BigInteger.valueOf(wholeDigit(account, column))));
    }
    return sum.compareTo(new BigInteger("999999999999999")) > 0 ? -1 : sum.longValueExact();
  }

  private Fraction both(int account, int other) {
    return at(account).plus(at(other));
  }

  public int whyNoSum(int account, int other) {
    Fraction sum = both(account, other);
    if (sum.top.compareTo(MOST_NUMERATOR) > 0) {
      return 1;
    }
    return sum.bottom.compareTo(MOST_DENOMINATOR) > 0 ? 2 : 0;
  }

  public int periodOfSum(int account, int other) {
    return Tail.of(both(account, other), now.base).period.length();
  }

  public double shareOf(int account) {
    at(account);
    double all = 0.0;
    for (Fraction each : now.accounts) {
      all += each.asDouble();
    }
    return all == 0.0 ? 0.0 : at(account).asDouble() / all;
  }

  private long hash;

  private void mix(long... values) {
    for (long value : values) {
      hash = 31 * hash + value;
    }
  }

  public long digest() {
    hash = 4513;
    mix(base(), richest(), savedStates());
    for (int a = 0; a < 6; a++) {
      mix(numerator(a), denominator(a), whole(a), wholeDigits(a));
      for (int c = 0; c < wholeDigits(a); c++) {
        mix(wholeDigit(a, c), wholeDigitByPowers(a, c));
      }
      mix(digitSum(a), leftByDigits(a), leftByDividing(a));
      mix(headLength(a), periodLength(a), periodByOrder(a));
      for (int place = 0; place <= 9; place++) {
        mix(digitBehind(a, place));
      }
      mix(shortestBase(a), readIn(a, 16), writtenLength(a));
      mix(writtenAt(a, writtenLength(a) - 1));
    }
    for (int a = 0; a < 6; a++) {
      int b = a == 5 ? 0 : a + 1;
      mix(carries(a, b), longestChain(a, b));
      for (int c = 0; c < columns(a, b).digits.length(); c++) {
        mix(sumDigit(a, b, c));
      }
      mix(sumByColumns(a, b), whyNoSum(a, b), periodOfSum(a, b), compare(a, b));
    }
    for (int a = 0; a < 6; a++) {
      mix(Double.doubleToLongBits(shareOf(a)));
    }
    mix(hasStopped() ? 1 : 0);
    if (hasStopped()) {
      mix(stoppedPart(), whyStopped());
    }
    mix(buffer.length());
    buffer.chars().forEach(code -> mix(code));
    return hash;
  }
}
