import java.math.BigInteger;

/** The term "Digits", and the promises 25 to 37. */
final class DigitEdges extends Edges {
  DigitEdges(Check check, Doc doc) {
    super(check, doc);
  }

  @Override
  void run() {
    wholeAndRest();
    wholeDigitsAtPowers();
    wholeColumns();
    wholeColumnsBeyond();
    digitSums();
    leftByBaseLessOne();
    restsThatEnd();
    restsThatComeAgain();
    written();
    byOrders();
    lengths();
    digitBehind();
    digitBehindToTheEdge();
    shortestBase();
    writtenLength();
    writtenAt();
  }

  /** What account 0 has, written in a base. */
  private void writes(int base, int numerator, int denominator, String text) {
    x.setBase(base);
    x.setFraction(0, numerator, denominator);
    same(text, written(0));
  }

  private void wholeAndRest() {
    says("Digits", "A fraction is a whole part and a rest below 1");
    writes(10, 998, 999, "0.(998)");
    writes(10, 999, 999, "1");
    writes(10, 1000, 999, "1.(001)");
    writes(10, 1998, 999, "2");
    writes(10, MOST, 2, "499999999.5");
  }

  private void wholeDigitsAtPowers() {
    says("Digits", "The whole part is written with digits in the base, the first one not 0");
    writes(6, 0, 1, "0");
    writes(6, 1, 2, "0.3");
    for (int base = 2; base <= 16; base++) {
      for (long power = base; power <= MOST; power = power * base) {
        writes(base, (int) power - 1, 1, Integer.toString((int) power - 1, base));
        writes(base, (int) power, 1, Integer.toString((int) power, base));
        fresh();
      }
    }
    says(25, "Returns the number of whole digits of an account");
    for (int base = 2; base <= 16; base++) {
      fresh();
      x.setBase(base);
      int digits = 1;
      for (long power = base; power <= MOST; power = power * base) {
        int least = digits;
        x.setFraction(0, (int) power - 1, 1);
        due(least, () -> x.wholeDigits(0));
        x.setFraction(0, (int) power, 1);
        due(least + 1, () -> x.wholeDigits(0));
        digits++;
      }
    }
    says(25, "Returns how many, 1 or more");
    due(1, () -> x.wholeDigits(0));
    x.setFraction(0, 998, 999);
    due(1, () -> x.wholeDigits(0));
    x.setBase(2);
    x.setFraction(0, MOST, 1);
    due(30, () -> x.wholeDigits(0));
  }

  private void wholeColumns() {
    says("Digits", "Whole digits are told by their columns, from the right on, from 0");
    x.setBase(10);
    x.setFraction(0, 987654321, 1);
    for (int column = 0; column < 9; column++) {
      int at = column;
      due(column + 1, () -> x.wholeDigit(0, at));
      due(column + 1, () -> x.wholeDigitByPowers(0, at));
    }
    says(26, "Returns a whole digit of an account");
    everyColumn(false);
    says(27, "Returns the same, told by powers");
    everyColumn(true);
    says(26, "Returns the digit");
    due(0, () -> x.wholeDigit(0, 0));
    x.setBase(16);
    x.setFraction(0, 15 * 16, 1);
    due(15, () -> x.wholeDigit(0, 1));
    due(0, () -> x.wholeDigit(0, 0));
    says(27, "Returns the digit");
    due(0, () -> x.wholeDigitByPowers(0, 0));
    x.setBase(16);
    x.setFraction(0, 15 * 16, 1);
    due(15, () -> x.wholeDigitByPowers(0, 1));
    due(0, () -> x.wholeDigitByPowers(0, 0));
  }

  private void everyColumn(boolean byPowers) {
    for (int base = 2; base <= 16; base++) {
      for (int value : new int[] {0, 1, base - 1, base, base * base - 1, 700000001, MOST}) {
        fresh();
        x.setBase(base);
        x.setFraction(0, value, 1);
        String text = new StringBuilder(Integer.toString(value, base)).reverse().toString();
        for (int column = 0; column < text.length(); column++) {
          int at = column;
          int digit = Character.digit(text.charAt(column), 16);
          due(digit, () -> byPowers ? x.wholeDigitByPowers(0, at) : x.wholeDigit(0, at));
        }
      }
    }
  }

  private void wholeColumnsBeyond() {
    for (int promise = 26; promise <= 27; promise++) {
      boolean byPowers = promise == 27;
      says(promise, "column: from 0, from the right on");
      x.setFraction(0, 36, 1);
      for (int column = 0; column < 3; column++) {
        int at = column;
        due(column / 2, () -> byPowers ? x.wholeDigitByPowers(0, at) : x.wholeDigit(0, at));
      }
      says(promise, "if there is no such account or column");
      noColumn(byPowers, 1);
      x.setFraction(0, 35, 1);
      noColumn(byPowers, 2);
      x.setFraction(0, 36, 1);
      noColumn(byPowers, 3);
      x.setFraction(0, MOST, 1);
      x.setBase(2);
      due(1, () -> byPowers ? x.wholeDigitByPowers(0, 29) : x.wholeDigit(0, 29));
      noColumn(byPowers, 30);
      x.setBase(16);
      due(3, () -> byPowers ? x.wholeDigitByPowers(0, 7) : x.wholeDigit(0, 7));
      noColumn(byPowers, 8);
      noPlace(() -> byPowers ? x.wholeDigitByPowers(6, 0) : x.wholeDigit(6, 0));
    }
  }

  private void noColumn(boolean byPowers, int digits) {
    for (int column : new int[] {
        Integer.MIN_VALUE, -1, digits, digits + 1, digits + 32, Integer.MAX_VALUE}) {
      noPlace(() -> byPowers ? x.wholeDigitByPowers(0, column) : x.wholeDigit(0, column));
    }
  }

  private void digitSums() {
    says(28, "Returns the sum of the whole digits of an account");
    x.setFraction(0, 5 * 216 + 4 * 36 + 1, 1);
    due(10, () -> x.digitSum(0));
    // Digits behind the point do not count.
    x.setFraction(0, 6 * 7 + 5, 6);
    due(2, () -> x.digitSum(0));
    says(28, "Returns the sum.");
    due(0, () -> x.digitSum(0));
    x.setFraction(0, MOST, 1);
    x.setBase(10);
    due(81, () -> x.digitSum(0));
    x.setBase(2);
    due(Integer.bitCount(MOST), () -> x.digitSum(0));
    x.setFraction(0, 1 << 29, 1);
    due(1, () -> x.digitSum(0));
    x.setFraction(0, (1 << 29) - 1, 1);
    due(29, () -> x.digitSum(0));
  }

  private void leftByBaseLessOne() {
    for (int promise = 29; promise <= 30; promise++) {
      boolean byDigits = promise == 29;
      says(promise, byDigits ? "Returns what the whole part of an account leaves" : "the same");
      for (int base = 2; base <= 16; base++) {
        fresh();
        x.setBase(base);
        for (int value : new int[] {0, 1, base - 2, base - 1, base, base * (base - 1), MOST}) {
          x.setFraction(0, value, 1);
          due(value % (base - 1), () -> byDigits ? x.leftByDigits(0) : x.leftByDividing(0));
        }
      }
      says(promise, "Returns what is left");
      // The base less 1 is 1: nothing is left of any whole part.
      x.setBase(2);
      x.setFraction(0, MOST, 1);
      due(0, () -> byDigits ? x.leftByDigits(0) : x.leftByDividing(0));
      // Each of the ten digits is the base less 1.
      x.setBase(6);
      x.setFraction(0, 60466175, 1);
      due(0, () -> byDigits ? x.leftByDigits(0) : x.leftByDividing(0));
      x.setFraction(0, 5, 1);
      due(0, () -> byDigits ? x.leftByDigits(0) : x.leftByDividing(0));
      x.setFraction(0, 29, 6);
      due(4, () -> byDigits ? x.leftByDigits(0) : x.leftByDividing(0));
    }
  }

  private void restsThatEnd() {
    says("Digits", "The rest is written with digits behind the point");
    writes(10, 22, 7, "3.(142857)");
    writes(6, 35, 36, "0.55");
    says("Digits", "When a rest is 0, there are no more digits");
    writes(2, 1, 512, "0.000000001");
    due(9, () -> x.headLength(0));
    due(1, () -> x.digitBehind(0, 8));
    due(0, () -> x.digitBehind(0, 9));
    writes(6, 215, 216, "0.555");
    due(3, () -> x.headLength(0));
    due(0, () -> x.digitBehind(0, 3));
    says("Digits", "Without a rest that comes again all digits are the head");
    writes(6, 1, 36, "0.01");
    due(2, () -> x.headLength(0));
    due(0, () -> x.periodLength(0));
    due(0, () -> x.periodByOrder(0));
    writes(6, 7, 1, "11");
    due(0, () -> x.headLength(0));
    due(0, () -> x.periodLength(0));
    due(0, () -> x.periodByOrder(0));
  }

  private void restsThatComeAgain() {
    says("Digits", "Otherwise at some time a rest is one that was there before");
    writes(10, 1, 3, "0.(3)");
    writes(10, 1, 6, "0.1(6)");
    writes(10, 1, 12, "0.08(3)");
    writes(10, 11, 12, "0.91(6)");
    writes(6, 1, 5, "0.(1)");
    writes(6, 1, 7, "0.(05)");
    writes(6, 5, 7, "0.(41)");
    writes(6, 1, 10, "0.0(3)");
    writes(2, 1, 768, "0.00000000(01)");
    due(8, () -> x.headLength(0));
    due(2, () -> x.periodLength(0));
    // The head's last digit is the period's last one, too: no digit of the head may go with it.
    writes(10, 7, 30, "0.2(3)");
    writes(10, 1, 30, "0.0(3)");
    writes(10, 1, 15, "0.0(6)");
    writes(10, 9, 22, "0.4(09)");
  }

  private void written() {
    says("Digits", "Written, a fraction is its whole digits from the left on");
    writes(10, 0, 1, "0");
    writes(10, 120, 1, "120");
    writes(10, 1201, 10, "120.1");
    writes(10, 361, 3, "120.(3)");
    writes(10, 721, 6, "120.1(6)");
    writes(10, 5, 8, "0.625");
    writes(10, 1, 56, "0.017(857142)");
    writes(16, 9, 1, "9");
    writes(16, 10, 1, "a");
    writes(16, 15, 1, "f");
    writes(16, 16, 1, "10");
    writes(11, 10, 1, "a");
    writes(10, 10, 1, "10");
    writes(16, 9, 16, "0.9");
    writes(16, 10, 16, "0.a");
    writes(16, 15, 16, "0.f");
    writes(16, 2, 3, "0.(a)");
    writes(16, 3, 5, "0.(9)");
    writes(16, 14, 15, "0.(e)");
    writes(16, MOST, 1, "3b9ac9ff");
    writes(2, MOST, 1, Integer.toString(MOST, 2));
  }

  private void byOrders() {
    says("Digits", "Told by orders: of the denominator all factors");
    int[][] rows = {
      // base, denominator, period
      {6, 1, 0}, {6, 2, 0}, {6, 972, 0}, {6, 960, 1}, {6, 5, 1}, {6, 7, 2}, {6, 991, 990},
      {2, 512, 0}, {2, 768, 2}, {2, 947, 946}, {3, 999, 18}, {7, 997, 996}, {10, 983, 982},
      {10, 999, 3}, {16, 999, 9}, {16, 3, 1}, {16, 5, 1}, {16, 15, 1}, {16, 17, 2}, {12, 864, 0}
    };
    for (int[] row : rows) {
      x.setBase(row[0]);
      x.setFraction(0, 1, row[1]);
      due(row[2], () -> x.periodByOrder(0));
      due(row[2], () -> x.periodLength(0));
      fresh();
    }
  }

  private void lengths() {
    says(31, "Returns the length of the head of an account");
    x.setFraction(0, 1, 12);
    due(2, () -> x.headLength(0));
    says(31, "Returns how many digits");
    due(0, () -> x.headLength(0));
    x.setFraction(0, 1, 7);
    due(0, () -> x.headLength(0));
    x.setBase(2);
    x.setFraction(0, 1, 512);
    due(9, () -> x.headLength(0));
    x.setFraction(0, 511, 512);
    due(9, () -> x.headLength(0));
    x.setBase(4);
    due(5, () -> x.headLength(0));
    x.setBase(16);
    due(3, () -> x.headLength(0));
    says(32, "Returns the length of the period of an account, told by dividing");
    x.setFraction(0, 1, 35);
    due(2, () -> x.periodLength(0));
    says(32, "Returns how many digits, 0 if nothing repeats");
    due(0, () -> x.periodLength(0));
    x.setFraction(0, 1, 36);
    due(0, () -> x.periodLength(0));
    x.setBase(7);
    x.setFraction(0, 996, 997);
    due(996, () -> x.periodLength(0));
    says(33, "Returns the same, told by orders");
    x.setFraction(0, 1, 35);
    due(2, () -> x.periodByOrder(0));
    says(33, "Returns how many digits, 0 if nothing repeats");
    due(0, () -> x.periodByOrder(0));
    x.setFraction(0, 1, 36);
    due(0, () -> x.periodByOrder(0));
    x.setBase(7);
    x.setFraction(0, 996, 997);
    due(996, () -> x.periodByOrder(0));
  }

  /** The digit of a place, told by one division of long numbers. */
  private void digitsAlike(int base, int numerator, int denominator, int from, int to) {
    BigInteger shifted = BigInteger.valueOf(base).pow(from).multiply(BigInteger.valueOf(numerator));
    for (int place = from; place <= to; place++) {
      shifted = shifted.multiply(BigInteger.valueOf(base));
      long digit = shifted.divide(BigInteger.valueOf(denominator))
          .mod(BigInteger.valueOf(base)).longValue();
      int at = place;
      due(digit, () -> x.digitBehind(0, at));
    }
  }

  private void digitBehind() {
    says(34, "Returns a digit of an account behind the point, also beyond the first period");
    x.setBase(7);
    x.setFraction(0, 5, 997);
    digitsAlike(7, 5, 997, 0, 60);
    digitsAlike(7, 5, 997, 960, 1100);
    digitsAlike(7, 5, 997, 1940, 2000);
    fresh();
    x.setFraction(0, 1, 28);
    digitsAlike(6, 1, 28, 0, 30);
    // 0 behind the last one, if nothing repeats.
    x.setFraction(0, 5, 36);
    for (int place : new int[] {0, 2, 3, 1000, 2000}) {
      due(0, () -> x.digitBehind(0, place));
    }
    due(5, () -> x.digitBehind(0, 1));
    x.setFraction(0, 5, 1);
    due(0, () -> x.digitBehind(0, 0));
    due(0, () -> x.digitBehind(0, 2000));
    says(34, "Returns the digit");
    x.setBase(16);
    x.setFraction(0, 15, 16);
    due(15, () -> x.digitBehind(0, 0));
    x.setFraction(0, 998, 999);
    digitsAlike(16, 998, 999, 0, 20);
    x.setFraction(0, MOST, 998);
    digitsAlike(16, MOST, 998, 0, 20);
  }

  private void digitBehindToTheEdge() {
    says(34, "place: 0 to 2000: 0 is the first one behind the point");
    x.setBase(10);
    x.setFraction(0, 1, 7);
    due(1, () -> x.digitBehind(0, 0));
    due(4, () -> x.digitBehind(0, 1));
    due(7, () -> x.digitBehind(0, 5));
    due(1, () -> x.digitBehind(0, 6));
    // 2000 is 6 * 333 + 2.
    due(4, () -> x.digitBehind(0, 1999));
    due(2, () -> x.digitBehind(0, 2000));
    says(34, "Throws IllegalArgumentException if place is out of range");
    x.setFraction(0, 1, 7);
    for (int place : new int[] {Integer.MIN_VALUE, -1, 2001, Integer.MAX_VALUE}) {
      badArgument(() -> x.digitBehind(0, place));
      badArgument(() -> x.digitBehind(1, place));
    }
  }

  private void shortest(int numerator, int denominator, int due) {
    x.setFraction(0, numerator, denominator);
    due(due, () -> x.shortestBase(0));
  }

  private void shortestBase() {
    says(35, "Returns the base in which the head and the period of an account are the shortest");
    shortest(1, 3, 3);
    shortest(1, 7, 7);
    shortest(1, 13, 13);
    shortest(1, 14, 14);
    shortest(1, 15, 15);
    // Lengths alike: 7, 8, 13 and 15; 8, 13, 14 and 15; 11 and 16.
    shortest(1, 21, 7);
    shortest(1, 28, 8);
    shortest(1, 60, 11);
    // A period of 2 in 5, a head of 2 in 12; a period of 4 in 13 alone.
    shortest(1, 24, 5);
    shortest(1, 119, 13);
    // In no base fewer than 491 digits.
    shortest(1, 983, 2);
    says(35, "Returns the base, 2 to 16");
    shortest(0, 1, 2);
    shortest(MOST, 1, 2);
    shortest(1, 2, 2);
    shortest(3, 2, 2);
    shortest(1, 16, 16);
    shortest(1, 17, 16);
    shortest(1, 255, 16);
    x.setBase(2);
    shortest(1, 255, 16);
    x.setBase(16);
    shortest(1, 2, 2);
  }

  private void lengthOf(int base, int numerator, int denominator, int due) {
    x.setBase(base);
    x.setFraction(0, numerator, denominator);
    due(due, () -> x.writtenLength(0));
  }

  private void writtenLength() {
    says(36, "Returns the length of an account, written");
    lengthOf(10, 721, 6, "120.1(6)".length());
    says(36, "Returns how many characters");
    due(1, () -> x.writtenLength(0));
    lengthOf(10, 9, 1, 1);
    lengthOf(10, 10, 1, 2);
    lengthOf(10, 1, 2, 3);
    lengthOf(10, 1, 3, 5);
    lengthOf(10, 1, 6, 6);
    lengthOf(2, MOST, 1, 30);
    lengthOf(2, 1, 512, 11);
    lengthOf(2, MOST, 512, 21 + 1 + 9);
    // The longest period there is: "0.(", 996 digits and ")".
    lengthOf(7, 1, 997, 1000);
  }

  private void writtenAt() {
    says(37, "Returns a character of an account, written");
    x.setBase(10);
    x.setFraction(0, 721, 6);
    String text = "120.1(6)";
    for (int place = 0; place < text.length(); place++) {
      int at = place;
      due(text.charAt(place), () -> x.writtenAt(0, at));
    }
    says(37, "place: from 0, from the left on");
    x.setFraction(0, 6 * 5 + 4, 1);
    due('5', () -> x.writtenAt(0, 0));
    due('4', () -> x.writtenAt(0, 1));
    says(37, "Returns its code");
    due(48, () -> x.writtenAt(0, 0));
    x.setBase(16);
    x.setFraction(0, 159, 16);
    due(57, () -> x.writtenAt(0, 0));
    due(46, () -> x.writtenAt(0, 1));
    due(102, () -> x.writtenAt(0, 2));
    x.setFraction(0, 2, 3);
    due(40, () -> x.writtenAt(0, 2));
    due(97, () -> x.writtenAt(0, 3));
    due(41, () -> x.writtenAt(0, 4));
    says(37, "if there is no such account or place");
    noCharacter(1);
    x.setFraction(0, 36, 1);
    noCharacter(3);
    x.setFraction(0, 1, 2);
    noCharacter("0.3".length());
    x.setFraction(0, 1, 5);
    noCharacter("0.(1)".length());
    x.setFraction(0, 1, 10);
    noCharacter("0.0(3)".length());
    x.setBase(7);
    x.setFraction(0, 1, 997);
    due(')', () -> x.writtenAt(0, 999));
    // Half a period behind its first digit, 0, stands what 6 is more than that.
    due('6', () -> x.writtenAt(0, 3 + 498));
    noCharacter(1000);
    noPlace(() -> x.writtenAt(-1, 0));
  }

  private void noCharacter(int length) {
    for (int place : new int[] {
        Integer.MIN_VALUE, -1, length, length + 1, length + 2000, Integer.MAX_VALUE}) {
      noPlace(() -> x.writtenAt(0, place));
    }
  }
}
