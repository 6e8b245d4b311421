/** The terms "Accounts" and "Exceptions", and the promises 1 to 7. */
final class AccountEdges extends Edges {
  AccountEdges(Check check, Doc doc) {
    super(check, doc);
  }

  @Override
  void run() {
    sixAccounts();
    leastDenominators();
    greatestNumbers();
    firstNumbersBeyond();
    newObject();
    setBase();
    setFraction();
    add();
    addUpToTheEdge();
    subtract();
    subtractDownToTheEdge();
    shift();
    shiftUpToTheEdge();
    pay();
    payUpToTheEdge();
    firstNamedException();
  }

  private void sixAccounts() {
    says("Terms", "All numbers are integers");
    x.setFraction(0, 7, 2);
    due(3, () -> x.whole(0));
    says("Accounts", "There are 6 accounts");
    for (int account = 0; account < 6; account++) {
      x.setFraction(account, 10 + account, 1);
    }
    for (int account = 0; account < 6; account++) {
      has(account, 10 + account, 1);
    }
    for (int account : NO_ACCOUNTS) {
      noPlace(() -> x.numerator(account));
      noPlace(() -> x.setFraction(account, 1, 1));
    }
  }

  private void leastDenominators() {
    says("Accounts", "Each has a fraction, 0 or more");
    for (int account = 0; account < 6; account++) {
      has(account, 0, 1);
    }
    x.setFraction(0, 0, 999);
    has(0, 0, 1);
    x.setFraction(0, 999, 999);
    has(0, 1, 1);
    x.setFraction(0, 998, 996);
    has(0, 499, 498);
    x.subtract(0, 0);
    has(0, 0, 1);
    x.setFraction(1, 1, 6);
    x.setFraction(2, 1, 3);
    x.add(1, 2);
    has(1, 1, 2);
    x.shift(1, 1);
    has(1, 3, 1);
    enter("3=0.3;4=0.(5);5=0.0");
    has(3, 1, 2);
    has(4, 1, 1);
    has(5, 0, 1);
  }

  private void greatestNumbers() {
    says("Accounts", "The numerator is at most 999999999");
    x.setFraction(0, MOST, 1);
    has(0, MOST, 1);
    x.setFraction(0, MOST, 998);
    has(0, MOST, 998);
    x.setFraction(0, 1, 999);
    has(0, 1, 999);
    x.setFraction(0, 999999998, 999);
    has(0, 999999998, 999);
    // Without the least denominator these would have 998001, and the next ones 2000000000.
    x.setFraction(1, 500, 999);
    x.setFraction(2, 498, 999);
    x.add(1, 2);
    has(1, 998, 999);
    x.setFraction(3, MOST, 2);
    x.setFraction(4, 1, 2);
    x.add(3, 4);
    has(3, 500000000, 1);
  }

  private void firstNumbersBeyond() {
    says("Accounts", "A change by which one of them would be greater");
    x.setFraction(0, MOST, 1);
    x.setFraction(1, 1, 1);
    x.setFraction(2, 1, 8);
    x.setFraction(3, 1, 125);
    badState(() -> x.add(0, 1));
    badState(() -> x.add(2, 3));
    badState(() -> x.subtract(2, 3));
    badState(() -> x.pay(1, 0, 1));
    x.setBase(10);
    x.setFraction(4, 100000000, 1);
    x.setFraction(5, 1, 100);
    badState(() -> x.shift(4, 1));
    badState(() -> x.shift(5, -1));
    has(0, MOST, 1);
    has(1, 1, 1);
    has(2, 1, 8);
    has(3, 1, 125);
    has(4, 100000000, 1);
    has(5, 1, 100);
    due(0, () -> enter("2+3;0=1"));
    has(2, 1, 8);
    has(0, MOST, 1);
  }

  private void newObject() {
    says(1, "Creates accounts with 0, the base 6");
    for (int account = 0; account < 6; account++) {
      has(account, 0, 1);
    }
    due(6, () -> x.base());
    badState(() -> x.restore());
    due(0, () -> x.savedStates());
    badState(() -> x.undo());
    isFalse(() -> x.hasStopped());
    due(0, () -> x.firstError());
    due(0, () -> x.clearBuffer());
  }

  private void setBase() {
    says("Digits", "The base is 2 to 16 (a setting, at first 6)");
    due(6, () -> x.base());
    due(6, () -> x.setBase(2));
    due(2, () -> x.setBase(16));
    badArgument(() -> x.setBase(1));
    badArgument(() -> x.setBase(17));
    due(16, () -> x.base());
    says(2, "Changes the base; the fractions stay");
    x.setFraction(0, 7, 2);
    for (int base = 2; base <= 16; base++) {
      x.setBase(base);
      int now = base;
      due(now, () -> x.base());
      has(0, 7, 2);
    }
    says(2, "Undoable");
    x.setBase(9);
    due(1, () -> x.savedStates());
    x.setBase(9);
    due(2, () -> x.savedStates());
    due(1, () -> x.undo());
    due(9, () -> x.base());
    due(0, () -> x.undo());
    due(6, () -> x.base());
    says(2, "base: 2 to 16");
    for (int base = 2; base <= 16; base++) {
      int now = base;
      due(now == 2 ? 6 : now - 1, () -> x.setBase(now));
    }
    says(2, "Returns the previous base");
    due(6, () -> x.setBase(7));
    due(7, () -> x.setBase(7));
    due(7, () -> x.setBase(2));
    says(2, "if base is out of range");
    for (int base : NO_BASES) {
      badArgument(() -> x.setBase(base));
    }
    due(6, () -> x.base());
    due(0, () -> x.savedStates());
  }

  private void setFraction() {
    says(3, "Lets an account have a fraction");
    x.setFraction(3, 5, 7);
    has(3, 5, 7);
    x.setFraction(3, 8, 9);
    has(3, 8, 9);
    has(2, 0, 1);
    has(4, 0, 1);
    says(3, "Undoable");
    x.setFraction(3, 5, 7);
    x.setFraction(3, 5, 7);
    due(2, () -> x.savedStates());
    x.undo();
    has(3, 5, 7);
    x.undo();
    has(3, 0, 1);
    says(3, "numerator: 0 to 999999999");
    due(1, () -> x.setFraction(0, 0, 1));
    due(1, () -> x.setFraction(0, MOST, 1));
    has(0, MOST, 1);
    says(3, "denominator: 1 to 999");
    due(1, () -> x.setFraction(0, 2, 1));
    due(999, () -> x.setFraction(0, 2, 999));
    has(0, 2, 999);
    due(37, () -> x.setFraction(0, 27, 999));
    has(0, 1, 37);
    says(3, "Returns the least denominator");
    due(1, () -> x.setFraction(5, 0, 999));
    due(1, () -> x.setFraction(5, MOST, 999));
    due(998, () -> x.setFraction(5, MOST, 998));
    due(2, () -> x.setFraction(5, 499, 998));
    says(3, "if numerator or denominator is out of range");
    for (int numerator : new int[] {Integer.MIN_VALUE, -1, 1000000000, Integer.MAX_VALUE}) {
      badArgument(() -> x.setFraction(0, numerator, 1));
      // The least denominator would have brought it into the range.
      badArgument(() -> x.setFraction(0, numerator, 500));
    }
    for (int denominator : new int[] {Integer.MIN_VALUE, -1, 0, 1000, Integer.MAX_VALUE}) {
      badArgument(() -> x.setFraction(0, 0, denominator));
      badArgument(() -> x.setFraction(0, 500, denominator));
    }
    has(0, 0, 1);
    due(0, () -> x.savedStates());
  }

  private void add() {
    says(4, "Adds an account to another one, or to itself");
    x.setFraction(1, 1, 3);
    x.setFraction(2, 1, 6);
    x.add(1, 2);
    has(1, 1, 2);
    x.add(1, 1);
    has(1, 1, 1);
    says(4, "Undoable");
    x.setFraction(1, 1, 3);
    x.add(1, 0);
    due(2, () -> x.savedStates());
    x.add(1, 1);
    due(3, () -> x.savedStates());
    x.undo();
    has(1, 1, 3);
    says(4, "account: 0 to 5: the one that has the sum");
    x.setFraction(5, 1, 3);
    x.setFraction(0, 1, 4);
    x.add(0, 5);
    has(0, 7, 12);
    x.add(5, 0);
    has(5, 11, 12);
    says(4, "other: 0 to 5: the one that is added, and stays");
    x.setFraction(5, 1, 3);
    x.add(0, 5);
    has(5, 1, 3);
    x.add(5, 0);
    has(0, 1, 3);
    says(4, "Returns the numerator of the sum");
    x.setFraction(1, 5, 6);
    x.setFraction(2, 1, 3);
    due(7, () -> x.add(1, 2));
    due(0, () -> x.add(3, 4));
    due(7, () -> x.add(1, 1));
  }

  private void addUpToTheEdge() {
    says(4, "Throws IllegalStateException if that is not possible");
    x.setFraction(0, 999999998, 1);
    x.setFraction(1, 1, 1);
    due(MOST, () -> x.add(0, 1));
    badState(() -> x.add(0, 1));
    badState(() -> x.add(0, 0));
    x.setFraction(0, 999999997, 2);
    due(MOST, () -> x.add(0, 1));
    badState(() -> x.add(0, 1));
    x.setFraction(0, 999999997, 3);
    badState(() -> x.add(0, 1));
    has(0, 999999997, 3);
    fresh();
    x.setFraction(0, 1, 27);
    x.setFraction(1, 1, 37);
    x.setFraction(2, 1, 8);
    x.setFraction(3, 1, 125);
    due(64, () -> x.add(0, 1));
    has(0, 64, 999);
    badState(() -> x.add(2, 3));
    badState(() -> x.add(3, 2));
    has(2, 1, 8);
    has(3, 1, 125);
    due(5, () -> x.savedStates());
    // The last two are beyond an int's range on the way to the sum.
    x.setFraction(4, MOST, 1);
    x.setFraction(5, MOST, 998);
    badState(() -> x.add(4, 4));
    badState(() -> x.add(4, 5));
    badState(() -> x.add(5, 4));
  }

  private void subtract() {
    says(5, "Subtracts an account from another one, or from itself");
    x.setFraction(1, 5, 6);
    x.setFraction(2, 1, 3);
    x.subtract(1, 2);
    has(1, 1, 2);
    x.subtract(1, 1);
    has(1, 0, 1);
    says(5, "Undoable");
    x.setFraction(1, 5, 6);
    x.subtract(1, 0);
    due(2, () -> x.savedStates());
    x.subtract(1, 1);
    due(3, () -> x.savedStates());
    x.undo();
    has(1, 5, 6);
    says(5, "account: 0 to 5: the one that has the difference");
    x.setFraction(5, 1, 3);
    x.setFraction(0, 3, 4);
    x.subtract(0, 5);
    has(0, 5, 12);
    x.setFraction(5, 1, 2);
    x.subtract(5, 0);
    has(5, 1, 12);
    says(5, "other: 0 to 5: the one that is subtracted, and stays, if it is another one");
    x.setFraction(5, 1, 3);
    x.setFraction(0, 3, 4);
    x.subtract(0, 5);
    has(5, 1, 3);
    x.subtract(5, 5);
    has(5, 0, 1);
    says(5, "Returns the numerator of the difference");
    x.setFraction(1, 5, 6);
    x.setFraction(2, 1, 3);
    due(1, () -> x.subtract(1, 2));
    due(1, () -> x.subtract(2, 5));
    due(0, () -> x.subtract(2, 2));
    due(0, () -> x.subtract(3, 4));
  }

  private void subtractDownToTheEdge() {
    says(5, "Throws IllegalStateException if it would be below 0, or is not possible");
    x.setFraction(0, 1, 999);
    x.setFraction(1, 1, 998);
    badState(() -> x.subtract(0, 1));
    x.setFraction(1, 1, 999);
    due(0, () -> x.subtract(0, 1));
    badState(() -> x.subtract(0, 1));
    has(0, 0, 1);
    // The denominator of the difference is 999, then 1000.
    x.setFraction(0, 1, 27);
    x.setFraction(1, 1, 37);
    due(10, () -> x.subtract(0, 1));
    has(0, 10, 999);
    fresh();
    x.setFraction(2, 1, 8);
    x.setFraction(3, 1, 125);
    badState(() -> x.subtract(2, 3));
    badState(() -> x.subtract(3, 2));
    // The numerator of the difference is 999999999, then 1000000000.
    x.setFraction(0, 500000000, 1);
    x.setFraction(1, 1, 2);
    due(MOST, () -> x.subtract(0, 1));
    has(0, MOST, 2);
    x.setFraction(4, 333333334, 1);
    x.setFraction(5, 2, 3);
    int saved = x.savedStates();
    badState(() -> x.subtract(4, 5));
    has(4, 333333334, 1);
    due(saved, () -> x.savedStates());
  }

  private void shift() {
    says(6, "Shifts an account by digits");
    x.setFraction(0, 7, 216);
    for (int times = 0; times < 4; times++) {
      int power = (int) Math.pow(6, 3 - times);
      has(0, 7, power);
      x.shift(0, 1);
    }
    has(0, 42, 1);
    x.shift(0, -1);
    x.shift(0, -1);
    has(0, 7, 6);
    says(6, "Undoable");
    x.setFraction(0, 1, 6);
    x.shift(0, 0);
    due(2, () -> x.savedStates());
    x.shift(1, 3);
    due(3, () -> x.savedStates());
    x.shift(0, 2);
    due(3, () -> x.undo());
    has(0, 1, 6);
    says(6, "digits: -3 to 3: below 0 it is divided");
    x.setBase(2);
    for (int digits = -3; digits <= 3; digits++) {
      x.setFraction(0, 8, 1);
      int by = digits;
      due(1, () -> x.shift(0, by));
      has(0, (8 << (3 + digits)) >> 3, 1);
    }
    says(6, "Returns the least denominator then");
    x.setFraction(0, 5, 12);
    due(12, () -> x.shift(0, 0));
    due(2, () -> x.shift(0, 1));
    due(432, () -> x.shift(0, -3));
    due(1, () -> x.shift(1, -3));
    says(6, "Throws IllegalArgumentException if digits is out of range");
    x.setFraction(0, 1, 1);
    for (int digits : new int[] {Integer.MIN_VALUE, -4, 4, Integer.MAX_VALUE}) {
      badArgument(() -> x.shift(0, digits));
      badArgument(() -> x.shift(1, digits));
    }
    has(0, 1, 1);
  }

  private void shiftUpToTheEdge() {
    says(6, "Throws IllegalStateException if that is not possible");
    x.setBase(10);
    x.setFraction(0, MOST, 10);
    due(1, () -> x.shift(0, 1));
    has(0, MOST, 1);
    badState(() -> x.shift(0, 1));
    x.setFraction(1, 100000000, 1);
    badState(() -> x.shift(1, 1));
    x.setFraction(2, 1000000, 1);
    badState(() -> x.shift(2, 3));
    due(1, () -> x.shift(2, 2));
    has(2, 100000000, 1);
    x.setFraction(3, 1, 100);
    badState(() -> x.shift(3, -1));
    has(3, 1, 100);
    fresh();
    x.setBase(3);
    x.setFraction(3, 1, 333);
    due(999, () -> x.shift(3, -1));
    badState(() -> x.shift(3, -1));
    x.setBase(16);
    // Times 4096 the numerator is beyond an int's range, too.
    x.setFraction(4, MOST, 1);
    badState(() -> x.shift(4, 3));
    x.setFraction(5, 1, 999);
    badState(() -> x.shift(5, -3));
  }

  private void pay() {
    says(7, "Pays a whole number from an account to another one");
    x.setFraction(0, 22, 7);
    x.setFraction(1, 1, 2);
    x.pay(0, 1, 2);
    has(0, 8, 7);
    has(1, 5, 2);
    says(7, "Undoable");
    x.setFraction(0, 3, 1);
    x.pay(0, 1, 3);
    due(2, () -> x.savedStates());
    due(1, () -> x.undo());
    has(0, 3, 1);
    has(1, 0, 1);
    says(7, "account: 0 to 5: the one that pays");
    x.setFraction(0, 3, 1);
    x.pay(0, 5, 3);
    has(0, 0, 1);
    x.pay(5, 0, 1);
    has(5, 2, 1);
    says(7, "other: 0 to 5: the one that is paid");
    x.setFraction(0, 3, 1);
    x.pay(0, 5, 3);
    has(5, 3, 1);
    x.pay(5, 0, 1);
    has(0, 1, 1);
    says(7, "coins: 1 to 999999");
    x.setFraction(0, 2000000, 1);
    due(1999999, () -> x.pay(0, 1, 1));
    due(1000000, () -> x.pay(0, 1, 999999));
    has(1, 1000000, 1);
    says(7, "Returns the numerator of the one that pays then");
    x.setFraction(0, 22, 7);
    due(15, () -> x.pay(0, 1, 1));
    due(1, () -> x.pay(0, 1, 2));
    due(0, () -> x.pay(1, 0, 3));
    says(7, "Throws IllegalArgumentException if both are the same, or coins is out of range");
    x.setFraction(0, 2000000, 1);
    for (int account = 0; account < 6; account++) {
      int same = account;
      badArgument(() -> x.pay(same, same, 1));
    }
    for (int coins : new int[] {Integer.MIN_VALUE, -1, 0, 1000000, Integer.MAX_VALUE}) {
      badArgument(() -> x.pay(0, 1, coins));
    }
    has(0, 2000000, 1);
    has(1, 0, 1);
  }

  private void payUpToTheEdge() {
    says(7, "Throws IllegalStateException if the one that pays has less, or that is not possible");
    x.setFraction(0, 5, 1);
    badState(() -> x.pay(0, 1, 6));
    due(0, () -> x.pay(0, 1, 5));
    badState(() -> x.pay(0, 1, 1));
    x.setFraction(0, 4994, 999);
    badState(() -> x.pay(0, 1, 5));
    x.setFraction(0, 4996, 999);
    due(1, () -> x.pay(0, 1, 5));
    fresh();
    x.setFraction(0, 7, 1);
    x.setFraction(1, 999999998, 1);
    due(6, () -> x.pay(0, 1, 1));
    has(1, MOST, 1);
    badState(() -> x.pay(0, 1, 1));
    x.setFraction(2, 999999997, 2);
    due(5, () -> x.pay(0, 2, 1));
    has(2, MOST, 2);
    x.setFraction(3, 999999997, 3);
    badState(() -> x.pay(0, 3, 1));
    has(0, 5, 1);
    has(3, 999999997, 3);
    due(6, () -> x.savedStates());
    // The one that pays would have been changed first, if not looked at together.
    x.setFraction(4, MOST, 997);
    badState(() -> x.pay(4, 1, 1));
    has(4, MOST, 997);
  }

  private void firstNamedException() {
    says("Exceptions", "If several exceptions apply, the one that is named first");
    noPlace(() -> x.setFraction(6, -1, 1));
    noPlace(() -> x.setFraction(-1, 1, 0));
    noPlace(() -> x.shift(6, 4));
    noPlace(() -> x.pay(6, 6, 1));
    noPlace(() -> x.pay(0, 6, 0));
    noPlace(() -> x.pay(-1, 0, 1000000));
    noPlace(() -> x.digitBehind(6, 2001));
    noPlace(() -> x.readIn(-1, 17));
    x.setFraction(0, MOST, 1);
    x.setFraction(1, 1, 999);
    // Each would not be possible, too.
    badArgument(() -> x.shift(0, 4));
    badArgument(() -> x.shift(1, -4));
    badArgument(() -> x.pay(2, 2, 1));
    badArgument(() -> x.pay(1, 0, 0));
    badArgument(() -> x.pay(1, 0, 1000000));
    type(fullText());
    badArgument(() -> x.append(32));
    badArgument(() -> x.append(127));
    badState(() -> x.append(33));
  }
}
