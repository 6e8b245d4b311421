/** The looks at accounts, promises 19 to 24. */
final class LookEdges extends Edges {
  LookEdges(Check check, Doc doc) {
    super(check, doc);
  }

  @Override
  void run() {
    numbers();
    whole();
    compare();
    compareByTheLeast();
    richest();
  }

  private void numbers() {
    says(19, "Returns the base");
    due(6, () -> x.base());
    x.setBase(2);
    due(2, () -> x.base());
    x.setBase(16);
    due(16, () -> x.base());
    says(20, "Returns the numerator of an account");
    due(0, () -> x.numerator(0));
    x.setFraction(5, MOST, 1);
    due(MOST, () -> x.numerator(5));
    says(20, "Returns the numerator.");
    x.setFraction(5, 6, 4);
    due(3, () -> x.numerator(5));
    says(21, "Returns the denominator of an account");
    due(1, () -> x.denominator(0));
    x.setFraction(5, 1, 999);
    due(999, () -> x.denominator(5));
    says(21, "Returns the denominator.");
    x.setFraction(5, 6, 4);
    due(2, () -> x.denominator(5));
  }

  private void whole() {
    says(22, "Returns the whole part of an account");
    due(0, () -> x.whole(0));
    x.setFraction(0, 7, 2);
    due(3, () -> x.whole(0));
    says(22, "Returns the whole part.");
    x.setFraction(0, 998, 999);
    due(0, () -> x.whole(0));
    x.setFraction(0, 999, 999);
    due(1, () -> x.whole(0));
    x.setFraction(0, 1997, 999);
    due(1, () -> x.whole(0));
    x.setFraction(0, MOST, 1);
    due(MOST, () -> x.whole(0));
    x.setFraction(0, MOST, 2);
    due(499999999, () -> x.whole(0));
    x.setFraction(0, MOST, 998);
    due(1002004, () -> x.whole(0));
  }

  private void compare() {
    says(23, "Compares an account with another one");
    x.setFraction(0, 1, 3);
    x.setFraction(1, 1, 2);
    due(-1, () -> x.compare(0, 1));
    due(1, () -> x.compare(1, 0));
    due(1, () -> x.compare(0, 2));
    due(-1, () -> x.compare(2, 0));
    says(23, "Returns 1 if it is greater, -1 if it is less, 0 if both are alike");
    for (int account = 0; account < 6; account++) {
      int same = account;
      due(0, () -> x.compare(same, same));
      due(0, () -> x.compare(same, 5 - same));
    }
    x.setFraction(2, 2, 6);
    x.setFraction(3, 3, 9);
    due(0, () -> x.compare(2, 3));
  }

  private void compareByTheLeast() {
    says(23, "Returns 1 if it is greater, -1 if it is less, 0 if both are alike");
    // They differ by 1/997002.
    x.setFraction(0, 1, 998);
    x.setFraction(1, 1, 999);
    due(1, () -> x.compare(0, 1));
    due(-1, () -> x.compare(1, 0));
    // 1002004 7/998 and 1002004 6/997; the products are beyond an int's range.
    x.setFraction(2, MOST, 998);
    x.setFraction(3, 998997994, 997);
    due(1, () -> x.compare(2, 3));
    due(-1, () -> x.compare(3, 2));
    x.setFraction(4, MOST, 1);
    x.setFraction(5, 999999998, 1);
    due(1, () -> x.compare(4, 5));
    due(-1, () -> x.compare(5, 4));
    x.setFraction(5, MOST, 998);
    due(1, () -> x.compare(4, 5));
    x.setFraction(5, 1, 999);
    due(1, () -> x.compare(4, 5));
    due(-1, () -> x.compare(5, 4));
  }

  private void richest() {
    says(24, "Returns the account with the greatest fraction, of several the lowest");
    due(0, () -> x.richest());
    for (int account = 5; account >= 0; account--) {
      x.setFraction(account, 7, 2);
      int lowest = account;
      due(lowest, () -> x.richest());
    }
    for (int account = 0; account < 6; account++) {
      x.setFraction(account, 1, 2);
      int next = (account + 1) % 6;
      due(next, () -> x.richest());
    }
    for (int account = 1; account < 6; account++) {
      x.setFraction(account, account + 1, 2);
      int now = account;
      due(now, () -> x.richest());
    }
    fresh();
    x.setFraction(2, 1, 999);
    x.setFraction(4, 1, 998);
    due(4, () -> x.richest());
    x.setFraction(5, 1, 998);
    due(4, () -> x.richest());
    x.setFraction(3, 1, 997);
    due(3, () -> x.richest());
  }
}
