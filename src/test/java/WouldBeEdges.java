/** What would be, promises 42 to 46. */
final class WouldBeEdges extends Edges {
  WouldBeEdges(Check check, Doc doc) {
    super(check, doc);
  }

  @Override
  void run() throws ReflectiveOperationException {
    readIn();
    readInUpToTheEdge();
    whyNoSum();
    whyNoSumUpToTheEdge();
    periodOfSum();
    shareOf();
    digest();
  }

  private void reads(int base, int value, int other, long due) {
    fresh();
    x.setBase(base);
    x.setFraction(0, value, 1);
    due(due, () -> x.readIn(0, other));
  }

  private void readIn() {
    says(42, "Returns the number that the whole digits of an account tell");
    reads(6, 35, 10, 55);
    reads(10, 255, 16, 0x255);
    reads(16, 0x255, 10, 255);
    says(42, "base: 2 to 16");
    reads(2, 5, 2, 5);
    reads(2, 5, 16, 0x101);
    for (int base = 2; base <= 16; base++) {
      reads(base, MOST, base, MOST);
    }
    says(42, "Throws IllegalArgumentException if base is out of range");
    for (int base : NO_BASES) {
      badArgument(() -> x.readIn(0, base));
    }
  }

  private void readInUpToTheEdge() {
    says(42, "Returns the number; -1 if a digit is not below this base");
    reads(6, 0, 2, 0);
    for (int base = 2; base <= 15; base++) {
      reads(16, base - 1, base, base - 1);
      reads(16, base, base, -1);
      reads(16, 15, base, -1);
      // At the last column, in the middle and at the first one.
      reads(16, 0x100 * base + 0x11, base, -1);
      reads(16, 0x101 + 0x10 * base, base, -1);
      reads(16, 0x110 + base, base, -1);
    }
    // 15 ones, then a 1 and 15 times 0: 1000000000000000.
    reads(2, (1 << 15) - 1, 10, 111111111111111L);
    reads(2, 1 << 15, 10, -1);
    reads(3, 14348906, 10, 222222222222222L);
    reads(3, 14348907, 10, -1);
    // The nearest ones below 999999999999999 and what stands next to them.
    reads(4, 268435455, 13, 984344096424822L);
    reads(4, 268435456, 13, -1);
    reads(4, 134217727, 14, 976879720928177L);
    reads(4, 134217728, 14, -1);
    // Beyond a long's range, if it was told to its end.
    reads(2, MOST, 16, -1);
    reads(2, MOST, 15, -1);
    reads(3, MOST, 16, -1);
    // Both: too great, and a digit that is not below.
    reads(16, MOST, 15, -1);
  }

  private void whyNoSum() {
    says(43, "Tells why an account cannot be added to another one");
    x.setFraction(0, MOST, 1);
    x.setFraction(1, 1, 1);
    due(1, () -> x.whyNoSum(0, 1));
    badState(() -> x.add(0, 1));
    due(0, () -> x.whyNoSum(1, 1));
    due(2, () -> x.add(1, 1));
    says(43, "account: 0 to 5: the one that would have the sum");
    x.setFraction(0, MOST, 1);
    x.setFraction(5, 1, 1);
    due(1, () -> x.whyNoSum(0, 5));
    due(1, () -> x.whyNoSum(5, 0));
    due(1, () -> x.whyNoSum(0, 0));
    due(0, () -> x.whyNoSum(5, 5));
  }

  private void whyNoSumUpToTheEdge() {
    says(43, "Returns 1 if the numerator would be too great; 2 if the denominator would; 0 if");
    due(0, () -> x.whyNoSum(0, 1));
    x.setFraction(0, 999999998, 1);
    x.setFraction(1, 1, 1);
    due(0, () -> x.whyNoSum(0, 1));
    x.setFraction(0, MOST, 1);
    due(1, () -> x.whyNoSum(0, 1));
    x.setFraction(0, 999999997, 2);
    due(0, () -> x.whyNoSum(0, 1));
    x.setFraction(0, 999999997, 3);
    due(1, () -> x.whyNoSum(0, 1));
    // Without the least denominator the numerator would be too great.
    x.setFraction(0, MOST, 2);
    x.setFraction(1, 1, 2);
    due(0, () -> x.whyNoSum(0, 1));
    x.setFraction(2, 1, 27);
    x.setFraction(3, 1, 37);
    due(0, () -> x.whyNoSum(2, 3));
    x.setFraction(4, 1, 8);
    x.setFraction(5, 1, 125);
    due(2, () -> x.whyNoSum(4, 5));
    // Both would be too great: the first one holds.
    x.setFraction(4, MOST, 8);
    due(1, () -> x.whyNoSum(4, 5));
    due(1, () -> x.whyNoSum(5, 4));
    x.setFraction(4, 1, 999);
    x.setFraction(5, 500, 999);
    due(0, () -> x.whyNoSum(4, 5));
  }

  private void periodOfSum() {
    says(44, "Returns the length of the period that the sum of two accounts would have");
    x.setFraction(0, 1, 10);
    x.setFraction(1, 2, 5);
    due(0, () -> x.periodOfSum(0, 1));
    due(1, () -> x.periodOfSum(0, 0));
    x.setFraction(2, 1, 7);
    due(2, () -> x.periodOfSum(1, 2));
    x.setFraction(2, 4, 7);
    x.setFraction(3, 3, 7);
    due(0, () -> x.periodOfSum(2, 3));
    // However great the numerator and the denominator are.
    x.setFraction(0, MOST, 997);
    x.setFraction(1, MOST, 991);
    x.setFraction(2, MOST, 998);
    due(1, () -> x.whyNoSum(0, 1));
    due(164340, () -> x.periodOfSum(0, 1));
    due(164340, () -> x.periodOfSum(1, 0));
    due(332, () -> x.periodOfSum(0, 0));
    x.setBase(10);
    due(166L * 495, () -> x.periodOfSum(0, 1));
    says(44, "Returns how many digits");
    due(0, () -> x.periodOfSum(0, 1));
    x.setFraction(0, 1, 36);
    x.setFraction(1, 1, 5);
    due(1, () -> x.periodOfSum(0, 1));
    due(0, () -> x.periodOfSum(0, 0));
    // Denominators that are powers of primes.
    x.setFraction(2, 1, 37);
    x.setFraction(3, 1, 961);
    due(lengthOfOrder(6, 37 * 961), () -> x.periodOfSum(2, 3));
    x.setBase(2);
    x.setFraction(2, 1, 729);
    due(lengthOfOrder(2, 729 * 961), () -> x.periodOfSum(2, 3));
    int[][] rows = {
      // base and two denominators that have no factor in common with it, or with each other
      {2, 343, 625}, {3, 2, 1}, {3, 32, 1}, {3, 512, 961}, {5, 512, 729}, {7, 128, 1}, {7, 2, 999},
      {9, 256, 25}, {10, 999, 1}, {11, 512, 625}, {13, 8, 997}, {15, 512, 343}, {16, 729, 625}
    };
    for (int[] row : rows) {
      fresh();
      x.setBase(row[0]);
      x.setFraction(0, 1, row[1]);
      x.setFraction(1, 1, row[2]);
      due(lengthOfOrder(row[0], row[1] * row[2]), () -> x.periodOfSum(0, 1));
      due(lengthOfOrder(row[0], row[1] * row[2]), () -> x.periodOfSum(1, 0));
    }
  }

  private static long lengthOfOrder(long base, long modulus) {
    long power = base % modulus;
    long times = 1;
    while (power != 1) {
      power = power * base % modulus;
      times++;
    }
    return times;
  }

  private void shareOf() {
    says(45, "Returns what an account is of all");
    x.setFraction(0, 1, 4);
    x.setFraction(5, 3, 4);
    same("0.25", Check.outcome(() -> x.shareOf(0)));
    same("0.75", Check.outcome(() -> x.shareOf(5)));
    same("0.0", Check.outcome(() -> x.shareOf(1)));
    says(45, "Returns its fraction, as a double");
    for (int account = 0; account < 6; account++) {
      int each = account;
      same("0.0", Check.outcome(() -> x.shareOf(each)));
    }
    x.setFraction(5, 1, 999);
    same("1.0", Check.outcome(() -> x.shareOf(5)));
    same("0.0", Check.outcome(() -> x.shareOf(0)));
    // The least share there is, but for 0.
    for (int account = 0; account < 5; account++) {
      x.setFraction(account, MOST, 1);
    }
    same(1.0 / 999 / 5.0e9, near(x.shareOf(5), 1.0 / 999 / 5.0e9));
    fresh();
    double[] parts = new double[6];
    int[][] fractions = {{1, 999}, {285970257, 11}, {1, 991}, {1, 3}, {7, 3}, {5, 11}};
    for (int account = 0; account < 6; account++) {
      x.setFraction(account, fractions[account][0], fractions[account][1]);
      parts[account] = (double) fractions[account][0] / fractions[account][1];
    }
    double upwards = parts[0] + parts[1] + parts[2] + parts[3] + parts[4] + parts[5];
    double downwards = parts[5] + parts[4] + parts[3] + parts[2] + parts[1] + parts[0];
    // Only then do the shares tell in which order the fractions were added.
    same(false, upwards == downwards);
    for (int account = 0; account < 6; account++) {
      same(parts[account] / upwards, x.shareOf(account));
    }
  }

  /** The second number, if both are alike but for what rounding can do. */
  private static double near(double got, double due) {
    return got > due * 0.99999 && got < due * 1.00001 ? due : got;
  }

  private void hashes(String... calls) throws ReflectiveOperationException {
    fresh();
    Model model = new Model();
    same(Script.run(model, calls), Script.run(x, calls));
    String before = Script.outcome(x, "digest");
    same(Script.outcome(model, "digest"), before);
    same(before, Script.outcome(x, "digest"));
  }

  private void digest() throws ReflectiveOperationException {
    says(46, "Computes a hash of the whole state");
    hashes();
    hashes("setBase 2");
    hashes("setBase 16", "setFraction 0 999999999 1", "setFraction 5 999999999 998");
    says(46, "The hash starts at 4513");
    hashes();
    says(46, "Returns the hash");
    hashes("setFraction 3 22 7");
    says(46, "For each value v of the following list");
    // Saved states, none to 6 and more.
    String[] changes = new String[8];
    for (int count = 0; count < changes.length; count++) {
      changes[count] = "setFraction " + count % 6 + " " + (count + 1) + " 999";
      hashes(java.util.Arrays.copyOf(changes, count + 1));
    }
    // The richest one, and the account 0 behind the account 5.
    for (int account = 0; account < 6; account++) {
      hashes("setFraction " + account + " 35 6", "setFraction 0 5 7");
    }
    hashes("setFraction 5 999999999 997", "setFraction 0 999999999 991");
    // The buffer, empty and full, and each of its codes.
    hashes("append 33", "append 126");
    hashes("append 126", "append 33");
    hashes("type " + fullText());
    hashes("type " + fullText(), "append 48", "clearBuffer");
    // A stop, at the part 0, at the last one, and for each reason.
    hashes("type 0=6", "enter");
    hashes("type 0=6;0=1", "enter", "type 0=1", "enter");
    hashes("type 0=1;1-0", "enter");
    hashes("type b16;0=ffffffff", "enter", "undo");
    hashes("type b16;0=ffffffff", "enter", "keep", "type b2", "enter", "restore");
    // Neither the snapshot nor what is saved counts, but for how many are saved.
    hashes("setBase 7", "keep", "setBase 6");
    hashes("setBase 8", "setBase 6");
  }
}
