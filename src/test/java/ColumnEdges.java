/** The term "Columns", and the promises 38 to 41. */
final class ColumnEdges extends Edges {
  ColumnEdges(Check check, Doc doc) {
    super(check, doc);
  }

  @Override
  void run() {
    carriesAtTheBase();
    lastColumns();
    chains();
    carries();
    longestChain();
    sumDigit();
    sumByColumns();
  }

  private void put(int base, int one, int other) {
    fresh();
    x.setBase(base);
    x.setFraction(0, one, 1);
    x.setFraction(5, other, 1);
  }

  /** The digits of the sum, written from the last column on. */
  private void sums(int base, int one, int other, String digits) {
    put(base, one, other);
    for (int column = 0; column < digits.length(); column++) {
      int digit = Character.digit(digits.charAt(digits.length() - 1 - column), 16);
      int at = column;
      due(digit, () -> x.sumDigit(0, 5, at));
      due(digit, () -> x.sumDigit(5, 0, at));
    }
    noPlace(() -> x.sumDigit(0, 5, digits.length()));
    noPlace(() -> x.sumDigit(5, 0, digits.length()));
  }

  private void carry(int base, int one, int other, int columns, int chain) {
    put(base, one, other);
    due(columns, () -> x.carries(0, 5));
    due(columns, () -> x.carries(5, 0));
    due(chain, () -> x.longestChain(0, 5));
    due(chain, () -> x.longestChain(5, 0));
  }

  private void carriesAtTheBase() {
    says("Columns", "Two whole parts are added column by column");
    for (int base = 2; base <= 16; base++) {
      String ten = "10";
      // Together the base less 1, the base, and the base and 1.
      sums(base, base - 1, 0, Integer.toString(base - 1, base));
      carry(base, base - 1, 0, 0, 0);
      sums(base, base - 1, 1, ten);
      carry(base, base - 1, 1, 1, 1);
      if (base > 2) {
        sums(base, base - 1, 2, "11");
        carry(base, base - 1, 2, 1, 1);
      }
      // The carry of the column ahead makes the base less 1 the base.
      sums(base, base * base - 1, 1, "100");
      carry(base, base * base - 1, 1, 2, 2);
      sums(base, (base - 2) * base + base - 1, 1, base == 2 ? ten
          : Integer.toString(base - 1, base) + "0");
      carry(base, (base - 2) * base + base - 1, 1, 1, 1);
      // The greatest that two digits and a carry can be together.
      int greatest = base * base - 1;
      sums(base, greatest, greatest, Integer.toString(2 * greatest, base));
      carry(base, greatest, greatest, 2, 2);
    }
    // Rests below 1 are not added.
    fresh();
    x.setFraction(0, 11, 2);
    x.setFraction(1, 1, 2);
    due(0, () -> x.carries(0, 1));
    due(5, () -> x.sumByColumns(0, 1));
  }

  private void lastColumns() {
    says("Columns", "If there is a carry behind the last column");
    sums(10, 99, 1, "100");
    carry(10, 99, 1, 2, 2);
    sums(10, 1, 99, "100");
    sums(10, 989, 11, "1000");
    carry(10, 989, 11, 3, 3);
    sums(10, 98, 1, "99");
    sums(10, 899, 1, "900");
    // The column of the carry has none itself, and is in no chain.
    sums(2, 3, 3, "110");
    carry(2, 3, 3, 2, 2);
    sums(10, 0, 0, "0");
  }

  private void chains() {
    says("Columns", "A chain of carries are columns side by side that have one");
    carry(10, 909090909, 101010101, 5, 1);
    carry(10, 990990990, 10010010, 6, 2);
    carry(10, 99900999, 100001, 6, 3);
    carry(10, 99909990, 90010, 7, 7);
    carry(10, 9990099, 10001, 5, 3);
    carry(10, 9900999, 100001, 5, 3);
  }

  private void carries() {
    says(38, "Returns the number of columns with a carry");
    carry(6, 35, 1, 2, 2);
    // The same account with itself: in the base 2 each 1 carries.
    put(2, MOST, MOST);
    due(Integer.bitCount(MOST), () -> x.carries(0, 0));
    due(Integer.bitCount(MOST), () -> x.carries(0, 5));
    says(38, "Returns how many");
    due(0, () -> x.carries(0, 1));
    due(0, () -> x.carries(0, 0));
    put(2, (1 << 29) - 1, 1);
    due(29, () -> x.carries(0, 5));
    put(16, MOST, 0);
    due(0, () -> x.carries(0, 5));
  }

  private void longestChain() {
    says(39, "Returns the length of the longest chain of carries");
    put(10, 9990099, 10001);
    due(3, () -> x.longestChain(0, 5));
    put(10, 9900999, 100001);
    due(3, () -> x.longestChain(0, 5));
    says(39, "Returns how many columns, 0 without carries");
    due(0, () -> x.longestChain(0, 1));
    due(0, () -> x.longestChain(0, 0));
    put(10, 5, 5);
    due(1, () -> x.longestChain(0, 5));
    put(10, 5, 4);
    due(0, () -> x.longestChain(0, 5));
    put(2, (1 << 29) - 1, 1);
    due(29, () -> x.longestChain(0, 5));
    put(2, (1 << 29) - 1, (1 << 29) - 1);
    due(29, () -> x.longestChain(0, 5));
  }

  private void sumDigit() {
    says(40, "Returns a digit of the sum of the whole parts of two accounts");
    sums(6, 35, 36, "155");
    sums(16, 250, 9, "103");
    says(40, "column: from 0");
    put(10, 56, 78);
    due(4, () -> x.sumDigit(0, 5, 0));
    due(3, () -> x.sumDigit(0, 5, 1));
    due(1, () -> x.sumDigit(0, 5, 2));
    says(40, "Returns the digit");
    due(0, () -> x.sumDigit(0, 1, 0));
    put(16, 7, 8);
    due(15, () -> x.sumDigit(0, 5, 0));
    says(40, "if there is no such account, or the sum has no such column");
    noColumn(1);
    put(10, 99, 0);
    noColumn(2);
    put(10, 99, 1);
    noColumn(3);
    put(2, MOST, 0);
    due(1, () -> x.sumDigit(0, 5, 29));
    noColumn(30);
    put(2, MOST, MOST);
    due(1, () -> x.sumDigit(0, 5, 30));
    noColumn(31);
    put(16, MOST, MOST);
    due(7, () -> x.sumDigit(0, 5, 7));
    noColumn(8);
    noPlace(() -> x.sumDigit(6, 0, 0));
    noPlace(() -> x.sumDigit(0, 6, 0));
    // Behind a longer sum nothing is left of its digits.
    put(10, 1, 1);
    noColumn(1);
  }

  private void noColumn(int length) {
    for (int column : new int[] {
        Integer.MIN_VALUE, -1, length, length + 1, length + 32, Integer.MAX_VALUE}) {
      noPlace(() -> x.sumDigit(0, 5, column));
      noPlace(() -> x.sumDigit(5, 0, column));
    }
  }

  private void sumByColumns() {
    says(41, "Returns the sum of the whole parts of two accounts, told by its digits");
    put(6, 35, 1);
    due(36, () -> x.sumByColumns(0, 5));
    // After a sum with more columns.
    x.setFraction(0, 1, 1);
    due(2, () -> x.sumByColumns(0, 5));
    says(41, "Returns the sum.");
    due(0, () -> x.sumByColumns(0, 1));
    for (int base = 2; base <= 16; base++) {
      put(base, MOST, MOST);
      due(1999999998, () -> x.sumByColumns(0, 5));
      due(1999999998, () -> x.sumByColumns(0, 0));
      due(MOST, () -> x.sumByColumns(0, 1));
    }
  }
}
