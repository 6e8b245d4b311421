/** Counting-house of the islands that count in sixes; DOC.md tells each promise by its number. */
public final class SixCounts {

  private static final int ACCOUNTS = 6;
  private static final int FIRST_BASE = 6;
  private static final int LEAST_BASE = 2;
  private static final int GREATEST_BASE = 16;
  private static final int MOST_NUMERATOR = 999999999;
  private static final int MOST_DENOMINATOR = 999;
  private static final int MOST_SHIFT = 3;
  private static final int MOST_COINS = 999999;
  private static final int LEAST_CODE = 33;
  private static final int GREATEST_CODE = 126;
  private static final int MOST_CHARACTERS = 60;
  private static final int MOST_SAVED = 6;
  private static final int MOST_PLACE = 2000;
  private static final int MOST_WHOLE_DIGITS = 30;
  private static final int DIGEST_PLACES = 10;
  private static final long MOST_READ = 999999999999999L;

  // Why a change is not possible; the numbers are those that whyStopped() answers.
  private static final int POSSIBLE = 0;
  private static final int DIGIT_TOO_GREAT = 1;
  private static final int TOO_GREAT = 2;
  private static final int BELOW_ZERO = 3;

  private final State now = new State();
  private final State snapshot = new State();
  private boolean hasSnapshot = false;
  private final History history = new History();
  private final Entries entries = new Entries();

  // Made once and used again by every call, so that calls make no objects.
  private final Ratio result = new Ratio();
  private final NumberText number = new NumberText();
  private final ColumnSum columnSum = new ColumnSum();

  public SixCounts() {
  }

  // ---- changes

  public int setBase(int base) throws IllegalArgumentException {
    requireBase(base);
    history.push(now);
    int previous = now.base;
    now.base = base;
    return previous;
  }

  public int setFraction(int account, int numerator, int denominator)
      throws IndexOutOfBoundsException, IllegalArgumentException {
    requireAccount(account);
    if (numerator < 0 || numerator > MOST_NUMERATOR) {
      throw new IllegalArgumentException("numerator out of range");
    }
    if (denominator < 1 || denominator > MOST_DENOMINATOR) {
      throw new IllegalArgumentException("denominator out of range");
    }
    result.put(numerator, denominator);
    saveAndStore(account);
    return now.denominatorOf(account);
  }

  public int add(int account, int other) throws IndexOutOfBoundsException, IllegalStateException {
    requireAccounts(account, other);
    formSum(account, other);
    requirePossible();
    saveAndStore(account);
    return now.numeratorOf(account);
  }

  public int subtract(int account, int other)
      throws IndexOutOfBoundsException, IllegalStateException {
    requireAccounts(account, other);
    formDifference(account, other);
    requirePossible();
    saveAndStore(account);
    return now.numeratorOf(account);
  }

  public int shift(int account, int digits)
      throws IndexOutOfBoundsException, IllegalArgumentException, IllegalStateException {
    requireAccount(account);
    if (digits < -MOST_SHIFT || digits > MOST_SHIFT) {
      throw new IllegalArgumentException("digits out of range");
    }
    formShift(account, digits);
    requirePossible();
    saveAndStore(account);
    return now.denominatorOf(account);
  }

  public int pay(int account, int other, int coins)
      throws IndexOutOfBoundsException, IllegalArgumentException, IllegalStateException {
    requireAccounts(account, other);
    if (account == other) {
      throw new IllegalArgumentException("an account does not pay itself");
    }
    if (coins < 1 || coins > MOST_COINS) {
      throw new IllegalArgumentException("coins out of range");
    }
    // Both are looked at before one is changed: a call that throws changes nothing.
    formWithCoins(account, -coins);
    requirePossible();
    formWithCoins(other, coins);
    requirePossible();
    saveAndStore(other);
    formWithCoins(account, -coins);
    now.store(account, result);
    return now.numeratorOf(account);
  }

  // ---- texts

  public int append(int code) throws IllegalArgumentException, IllegalStateException {
    if (code < LEAST_CODE || code > GREATEST_CODE) {
      throw new IllegalArgumentException("code out of range");
    }
    if (entries.length >= MOST_CHARACTERS) {
      throw new IllegalStateException("the buffer is full");
    }
    entries.put(code);
    return entries.length;
  }

  public int clearBuffer() {
    int previous = entries.length;
    entries.length = 0;
    return previous;
  }

  public int firstError() {
    return entries.errorIndex();
  }

  public int enter() throws IllegalArgumentException {
    if (!entries.areComplete()) {
      throw new IllegalArgumentException("the buffer is not complete entries");
    }
    history.push(now);
    now.stopAt(0, POSSIBLE);
    int done = doParts();
    entries.length = 0;
    return done;
  }

  public boolean hasStopped() {
    return now.stopReason != POSSIBLE;
  }

  public int stoppedPart() throws IllegalStateException {
    requireStop();
    return now.stopPart;
  }

  public int whyStopped() throws IllegalStateException {
    requireStop();
    return now.stopReason;
  }

  // ---- undo, the snapshot

  public int undo() throws IllegalStateException {
    if (history.count == 0) {
      throw new IllegalStateException("no state is saved");
    }
    history.pop(now);
    return history.count;
  }

  public int keep() {
    snapshot.takeFrom(now);
    hasSnapshot = true;
    return now.base;
  }

  public int restore() throws IllegalStateException {
    if (!hasSnapshot) {
      throw new IllegalStateException("there is no snapshot");
    }
    history.push(now);
    now.takeFrom(snapshot);
    return now.base;
  }

  public int savedStates() {
    return history.count;
  }

  // ---- looks at accounts

  public int base() {
    return now.base;
  }

  public int numerator(int account) throws IndexOutOfBoundsException {
    requireAccount(account);
    return now.numeratorOf(account);
  }

  public int denominator(int account) throws IndexOutOfBoundsException {
    requireAccount(account);
    return now.denominatorOf(account);
  }

  public int whole(int account) throws IndexOutOfBoundsException {
    requireAccount(account);
    return now.wholeOf(account);
  }

  public int compare(int account, int other) throws IndexOutOfBoundsException {
    requireAccounts(account, other);
    return order(account, other);
  }

  public int richest() {
    int best = 0;
    for (int account = 1; account < ACCOUNTS; account++) {
      if (order(account, best) > 0) {
        best = account;
      }
    }
    return best;
  }

  // ---- whole digits

  public int wholeDigits(int account) throws IndexOutOfBoundsException {
    requireAccount(account);
    return WholeDigits.count(now.wholeOf(account), now.base);
  }

  public int wholeDigit(int account, int column) throws IndexOutOfBoundsException {
    requireColumn(account, column);
    return WholeDigits.byDividing(now.wholeOf(account), now.base, column);
  }

  public int wholeDigitByPowers(int account, int column) throws IndexOutOfBoundsException {
    requireColumn(account, column);
    return WholeDigits.byPowers(now.wholeOf(account), now.base, column);
  }

  public int digitSum(int account) throws IndexOutOfBoundsException {
    requireAccount(account);
    return WholeDigits.sum(now.wholeOf(account), now.base);
  }

  public int leftByDigits(int account) throws IndexOutOfBoundsException {
    requireAccount(account);
    return (int) Numbers.left(WholeDigits.sum(now.wholeOf(account), now.base), now.base - 1);
  }

  public int leftByDividing(int account) throws IndexOutOfBoundsException {
    requireAccount(account);
    return (int) Numbers.left(now.wholeOf(account), now.base - 1);
  }

  // ---- digits behind the point

  public int headLength(int account) throws IndexOutOfBoundsException {
    requireAccount(account);
    return Behind.head(now.denominatorOf(account), now.base);
  }

  public int periodLength(int account) throws IndexOutOfBoundsException {
    requireAccount(account);
    int denominator = now.denominatorOf(account);
    int head = Behind.head(denominator, now.base);
    return Behind.periodByDividing(now.restOf(account), denominator, now.base, head);
  }

  public int periodByOrder(int account) throws IndexOutOfBoundsException {
    requireAccount(account);
    long coprime = Behind.coprimePart(now.denominatorOf(account), now.base);
    return Behind.timesToOne(now.base, coprime, MOST_DENOMINATOR);
  }

  public int digitBehind(int account, int place)
      throws IndexOutOfBoundsException, IllegalArgumentException {
    requireAccount(account);
    if (place < 0 || place > MOST_PLACE) {
      throw new IllegalArgumentException("place out of range");
    }
    return Behind.digit(now.restOf(account), now.denominatorOf(account), now.base, place);
  }

  public int shortestBase(int account) throws IndexOutOfBoundsException {
    requireAccount(account);
    int denominator = now.denominatorOf(account);
    int best = LEAST_BASE;
    int least = 2 * MOST_DENOMINATOR;
    for (int base = LEAST_BASE; base <= GREATEST_BASE; base++) {
      // A period that is no shorter than the least is not counted to its end.
      int period = Behind.timesToOne(base, Behind.coprimePart(denominator, base), least);
      int length = Behind.head(denominator, base) + period;
      if (length < least) {
        least = length;
        best = base;
      }
    }
    return best;
  }

  public int writtenLength(int account) throws IndexOutOfBoundsException {
    requireAccount(account);
    int length = WholeDigits.count(now.wholeOf(account), now.base);
    int denominator = now.denominatorOf(account);
    int head = Behind.head(denominator, now.base);
    int period = Behind.periodByDividing(now.restOf(account), denominator, now.base, head);
    if (head + period > 0) {
      length += 1 + head;
    }
    if (period > 0) {
      length += 2 + period;
    }
    return length;
  }

  public int writtenAt(int account, int place) throws IndexOutOfBoundsException {
    requireAccount(account);
    if (place < 0 || place >= writtenLength(account)) {
      throw new IndexOutOfBoundsException("no such place");
    }
    int value = now.wholeOf(account);
    int wholes = WholeDigits.count(value, now.base);
    if (place < wholes) {
      return codeOfDigit(WholeDigits.byDividing(value, now.base, wholes - 1 - place));
    }
    return codeBehind(account, place - wholes);
  }

  // ---- columns

  public int carries(int account, int other) throws IndexOutOfBoundsException {
    requireAccounts(account, other);
    formColumns(account, other);
    return columnSum.carryCount;
  }

  public int longestChain(int account, int other) throws IndexOutOfBoundsException {
    requireAccounts(account, other);
    formColumns(account, other);
    return columnSum.longest;
  }

  public int sumDigit(int account, int other, int column) throws IndexOutOfBoundsException {
    requireAccounts(account, other);
    formColumns(account, other);
    if (column < 0 || column >= columnSum.length) {
      throw new IndexOutOfBoundsException("no such column");
    }
    return columnSum.digitAt(column);
  }

  public long sumByColumns(int account, int other) throws IndexOutOfBoundsException {
    requireAccounts(account, other);
    formColumns(account, other);
    return columnSum.total(now.base);
  }

  // ---- what would be

  public long readIn(int account, int base)
      throws IndexOutOfBoundsException, IllegalArgumentException {
    requireAccount(account);
    requireBase(base);
    int value = now.wholeOf(account);
    long read = 0;
    for (int column = WholeDigits.count(value, now.base) - 1; column >= 0; column--) {
      int digit = WholeDigits.byDividing(value, now.base, column);
      read = read * base + digit;
      if (digit >= base || read > MOST_READ) {
        return -1;
      }
    }
    return read;
  }

  public int whyNoSum(int account, int other) throws IndexOutOfBoundsException {
    requireAccounts(account, other);
    formSum(account, other);
    if (result.numerator > MOST_NUMERATOR) {
      return 1;
    }
    return result.denominator > MOST_DENOMINATOR ? 2 : 0;
  }

  public int periodOfSum(int account, int other) throws IndexOutOfBoundsException {
    requireAccounts(account, other);
    formSum(account, other);
    return Behind.periodByFactors(Behind.coprimePart(result.denominator, now.base), now.base);
  }

  public double shareOf(int account) throws IndexOutOfBoundsException {
    requireAccount(account);
    double all = 0.0;
    for (int each = 0; each < ACCOUNTS; each++) {
      all = all + now.asDouble(each);
    }
    return all > 0.0 ? now.asDouble(account) / all : 0.0;
  }

  public long digest() {
    long hash = 4513;
    hash = mix(hash, now.base);
    hash = mix(hash, richest());
    hash = mix(hash, history.count);
    for (int account = 0; account < ACCOUNTS; account++) {
      hash = mixWhole(hash, account);
      hash = mixBehind(hash, account);
    }
    for (int account = 0; account < ACCOUNTS; account++) {
      hash = mixPair(hash, account, (account + 1) % ACCOUNTS);
    }
    for (int account = 0; account < ACCOUNTS; account++) {
      hash = mix(hash, bitsOf(shareOf(account)));
    }
    return mixTexts(hash);
  }

  // ---- parts of the digest

  private static long mix(long hash, long value) {
    return 31 * hash + value;
  }

  private long mixWhole(long start, int account) {
    int digits = wholeDigits(account);
    long hash = mix(start, numerator(account));
    hash = mix(hash, denominator(account));
    hash = mix(hash, whole(account));
    hash = mix(hash, digits);
    for (int column = 0; column < digits; column++) {
      hash = mix(hash, wholeDigit(account, column));
      hash = mix(hash, wholeDigitByPowers(account, column));
    }
    hash = mix(hash, digitSum(account));
    hash = mix(hash, leftByDigits(account));
    return mix(hash, leftByDividing(account));
  }

  private long mixBehind(long start, int account) {
    long hash = mix(start, headLength(account));
    hash = mix(hash, periodLength(account));
    hash = mix(hash, periodByOrder(account));
    for (int place = 0; place < DIGEST_PLACES; place++) {
      hash = mix(hash, digitBehind(account, place));
    }
    hash = mix(hash, shortestBase(account));
    hash = mix(hash, readIn(account, GREATEST_BASE));
    int length = writtenLength(account);
    hash = mix(hash, length);
    return mix(hash, writtenAt(account, length - 1));
  }

  private long mixPair(long start, int account, int other) {
    formColumns(account, other);
    long hash = mix(start, columnSum.carryCount);
    hash = mix(hash, columnSum.longest);
    for (int column = 0; column < columnSum.length; column++) {
      hash = mix(hash, columnSum.digitAt(column));
    }
    hash = mix(hash, columnSum.total(now.base));
    hash = mix(hash, whyNoSum(account, other));
    hash = mix(hash, periodOfSum(account, other));
    return mix(hash, order(account, other));
  }

  private long mixTexts(long start) {
    long hash = mix(start, hasStopped() ? 1 : 0);
    if (hasStopped()) {
      hash = mix(hash, now.stopPart);
      hash = mix(hash, now.stopReason);
    }
    hash = mix(hash, entries.length);
    for (int index = 0; index < entries.length; index++) {
      hash = mix(hash, entries.codeAt(index));
    }
    return hash;
  }

  /**
   * The bits of a share, which is never below 0, nor too small for a full mantissa: built by
   * arithmetic, for the language has no Double.doubleToLongBits.
   */
  private static long bitsOf(double share) {
    if (share <= 0.0) {
      return 0;
    }
    double scaled = share;
    long exponent = 1023;
    for (int step = 0; scaled < 1.0 && step < 1022; step++) {
      scaled = scaled * 2.0;
      exponent--;
    }
    long mantissa = (long) ((scaled - 1.0) * (double) (1L << 52));
    return (exponent << 52) + mantissa;
  }

  // ---- what the calls ask for

  private static void requireAccount(int account) {
    if (account < 0 || account >= ACCOUNTS) {
      throw new IndexOutOfBoundsException("no such account");
    }
  }

  private static void requireAccounts(int account, int other) {
    requireAccount(account);
    requireAccount(other);
  }

  private static void requireBase(int base) {
    if (base < LEAST_BASE || base > GREATEST_BASE) {
      throw new IllegalArgumentException("base out of range");
    }
  }

  private void requireColumn(int account, int column) {
    if (column < 0 || column >= wholeDigits(account)) {
      throw new IndexOutOfBoundsException("no such column");
    }
  }

  private void requirePossible() {
    if (result.reasonAgainst() != POSSIBLE) {
      throw new IllegalStateException("that is not possible");
    }
  }

  private void requireStop() {
    if (now.stopReason == POSSIBLE) {
      throw new IllegalStateException("it did not stop");
    }
  }

  // ---- results that are formed before they are stored

  private void saveAndStore(int account) {
    history.push(now);
    now.store(account, result);
  }

  private void formSum(int account, int other) {
    long denominator = now.denominatorOf(account);
    long otherDenominator = now.denominatorOf(other);
    result.put(
        now.numeratorOf(account) * otherDenominator + now.numeratorOf(other) * denominator,
        denominator * otherDenominator);
  }

  private void formDifference(int account, int other) {
    long denominator = now.denominatorOf(account);
    long otherDenominator = now.denominatorOf(other);
    result.put(
        now.numeratorOf(account) * otherDenominator - now.numeratorOf(other) * denominator,
        denominator * otherDenominator);
  }

  private void formShift(int account, int digits) {
    long factor = Numbers.power(now.base, Math.abs(digits));
    if (digits < 0) {
      result.put(now.numeratorOf(account), now.denominatorOf(account) * factor);
    } else {
      result.put(now.numeratorOf(account) * factor, now.denominatorOf(account));
    }
  }

  private void formWithCoins(int account, long coins) {
    long denominator = now.denominatorOf(account);
    result.put(now.numeratorOf(account) + coins * denominator, denominator);
  }

  private void formColumns(int account, int other) {
    columnSum.form(now.wholeOf(account), now.wholeOf(other), now.base);
  }

  private int order(int account, int other) {
    long mine = (long) now.numeratorOf(account) * now.denominatorOf(other);
    long theirs = (long) now.numeratorOf(other) * now.denominatorOf(account);
    if (mine == theirs) {
      return 0;
    }
    return mine > theirs ? 1 : -1;
  }

  // ---- written accounts

  private static int codeOfDigit(int digit) {
    return digit < 10 ? '0' + digit : 'a' + digit - 10;
  }

  /** The character of a place behind the whole digits; the place 0 is that of the point. */
  private int codeBehind(int account, int place) {
    int denominator = now.denominatorOf(account);
    long rest = now.restOf(account);
    int head = Behind.head(denominator, now.base);
    if (place == 0) {
      return '.';
    }
    if (place <= head) {
      return codeOfDigit(Behind.digit(rest, denominator, now.base, place - 1));
    }
    if (place == head + 1) {
      return '(';
    }
    // Ahead of this place stand two characters that are no digits: "." and "(".
    int digitPlace = place - 2;
    if (digitPlace < head + Behind.periodByDividing(rest, denominator, now.base, head)) {
      return codeOfDigit(Behind.digit(rest, denominator, now.base, digitPlace));
    }
    return ')';
  }

  // ---- entries

  /** Does the parts up to the first one that is not possible; returns how many are done. */
  private int doParts() {
    int done = 0;
    int start = 0;
    for (int end = 0; end <= entries.length; end++) {
      if (end == entries.length || entries.codeAt(end) == ';') {
        int reason = doPart(start, end);
        if (reason != POSSIBLE) {
          now.stopAt(done, reason);
          return done;
        }
        done++;
        start = end + 1;
      }
    }
    return done;
  }

  private int doPart(int start, int end) {
    if (entries.codeAt(start) == 'b') {
      now.base = entries.decimal(start + 1, end);
      return POSSIBLE;
    }
    int account = entries.codeAt(start) - '0';
    int reason = formEntry(account, start + 1, end);
    if (reason == POSSIBLE) {
      now.store(account, result);
    }
    return reason;
  }

  /** Forms what an account would have by a part, whose sign stands at start. */
  private int formEntry(int account, int start, int end) {
    int sign = entries.codeAt(start);
    if (sign == '=') {
      number.begin(now.base);
      for (int index = start + 1; index < end; index++) {
        number.take(entries.codeAt(index));
      }
      if (number.hasGreatDigit) {
        return DIGIT_TOO_GREAT;
      }
      number.putInto(result);
    } else if (sign == '+') {
      formSum(account, entries.codeAt(start + 1) - '0');
    } else {
      formDifference(account, entries.codeAt(start + 1) - '0');
    }
    return result.reasonAgainst();
  }

  /** Arithmetic on whole numbers; no divisor is used untested. */
  private static final class Numbers {

    private static final int MOST_STEPS = 100;

    static long quotient(long number, long divisor) {
      return divisor < 1 ? 0 : number / divisor;
    }

    static long left(long number, long divisor) {
      return divisor < 1 ? 0 : number % divisor;
    }

    static long greatestCommon(long one, long two) {
      long greater = one;
      long less = two;
      // Two steps halve a number, so longs need fewer steps than this.
      for (int step = 0; less != 0 && step < 2 * MOST_STEPS; step++) {
        long rest = greater % less;
        greater = less;
        less = rest;
      }
      return greater;
    }

    static long power(long base, int exponent) {
      long product = 1;
      for (int times = 0; times < exponent && times < MOST_STEPS; times++) {
        product = product * base;
      }
      return product;
    }
  }

  /** The digits of a whole part. */
  private static final class WholeDigits {

    static int count(int value, int base) {
      int digits = 1;
      long rest = Numbers.quotient(value, base);
      for (; rest > 0 && digits < MOST_WHOLE_DIGITS; digits++) {
        rest = Numbers.quotient(rest, base);
      }
      return digits;
    }

    static int byDividing(int value, int base, int column) {
      long rest = value;
      for (int passed = 0; passed < column && passed < MOST_WHOLE_DIGITS; passed++) {
        rest = Numbers.quotient(rest, base);
      }
      return (int) Numbers.left(rest, base);
    }

    static int byPowers(int value, int base, int column) {
      int last = count(value, base) - 1;
      long power = Numbers.power(base, last);
      long rest = value;
      int digit = 0;
      for (int each = last; each >= column && each >= 0; each--) {
        for (digit = 0; digit < base && rest >= power; digit++) {
          rest = rest - power;
        }
        power = Numbers.quotient(power, base);
      }
      return digit;
    }

    static int sum(int value, int base) {
      long rest = value;
      long total = 0;
      for (int column = 0; rest > 0 && column < MOST_WHOLE_DIGITS; column++) {
        total = total + Numbers.left(rest, base);
        rest = Numbers.quotient(rest, base);
      }
      return (int) total;
    }
  }

  /** The digits behind the point; a rest is told by its numerator over the denominator. */
  private static final class Behind {

    // A digit of the head takes a factor of 2 at least from the denominator, which is an int.
    private static final int MOST_HEAD = 32;

    static long restAfter(long rest, long denominator, int base, int places) {
      if (denominator < 1) {
        return 0;
      }
      long left = rest;
      for (int passed = 0; passed < places && passed <= MOST_PLACE; passed++) {
        left = left * base % denominator;
      }
      return left;
    }

    static int digit(long rest, long denominator, int base, int place) {
      long left = restAfter(rest, denominator, base, place);
      return (int) Numbers.quotient(left * base, denominator);
    }

    /** The least denominator of a rest, one digit on. */
    private static long digitOn(long denominator, int base) {
      return Numbers.quotient(denominator, Numbers.greatestCommon(denominator, base));
    }

    /** The digits until the denominator has no factor in common with the base any more. */
    static int head(long denominator, int base) {
      int digits = 0;
      long before = denominator;
      long after = digitOn(before, base);
      for (; after != before && digits < MOST_HEAD; digits++) {
        before = after;
        after = digitOn(before, base);
      }
      return digits;
    }

    static long coprimePart(long denominator, int base) {
      long part = denominator;
      for (int digits = head(denominator, base); digits > 0; digits--) {
        part = digitOn(part, base);
      }
      return part;
    }

    /** Behind the head every rest comes again: the first one there is waited for. */
    static int periodByDividing(long rest, long denominator, int base, int head) {
      long first = restAfter(rest, denominator, base, head);
      if (first == 0) {
        return 0;
      }
      int digits = 1;
      long left = restAfter(first, denominator, base, 1);
      for (; left != first && digits < denominator; digits++) {
        left = restAfter(left, denominator, base, 1);
      }
      return digits;
    }

    /** The order of the base, counted up to a limit; 0 for the modulus 1. */
    static int timesToOne(int base, long modulus, int limit) {
      if (modulus <= 1) {
        return 0;
      }
      long power = base % modulus;
      int times = 1;
      for (; power != 1 && times < limit; times++) {
        power = power * base % modulus;
      }
      return times;
    }

    /**
     * The order of the base, as the least common multiple of those for the powers of primes: the
     * denominator of a sum may be near a million, but no power of a prime in it is above 999.
     */
    static int periodByFactors(long coprime, int base) {
      if (coprime <= 1) {
        return 0;
      }
      long period = 1;
      long rest = coprime;
      for (long factor = 2; factor <= MOST_DENOMINATOR && rest > 1; factor++) {
        long without = Numbers.quotient(rest, factor);
        long power = 1;
        for (int times = 0; without * factor == rest && times < MOST_HEAD; times++) {
          power = power * factor;
          rest = without;
          without = Numbers.quotient(rest, factor);
        }
        if (power > 1) {
          long part = timesToOne(base, power, MOST_DENOMINATOR);
          period = Numbers.quotient(period, Numbers.greatestCommon(period, part)) * part;
        }
      }
      return (int) period;
    }
  }

  /** A fraction with the least denominator, perhaps below 0 or too great for an account. */
  private static final class Ratio {
    long numerator = 0;
    long denominator = 1;

    void put(long top, long bottom) {
      long common = Numbers.greatestCommon(Math.abs(top), bottom);
      numerator = Numbers.quotient(top, common);
      denominator = Numbers.quotient(bottom, common);
    }

    int reasonAgainst() {
      if (numerator < 0) {
        return BELOW_ZERO;
      }
      return numerator > MOST_NUMERATOR || denominator > MOST_DENOMINATOR ? TOO_GREAT : POSSIBLE;
    }
  }

  /** What undo and the snapshot restore: the base, the accounts and the latest stop. */
  private static final class State {
    int base = FIRST_BASE;
    int stopPart = 0;
    int stopReason = POSSIBLE;
    private final int[] numerators = new int[ACCOUNTS];
    private final int[] denominators = new int[ACCOUNTS];

    State() {
      for (int account = 0; account < ACCOUNTS; account++) {
        denominators[account] = 1;
      }
    }

    private static boolean isAccount(int account) {
      return account >= 0 && account < ACCOUNTS;
    }

    void takeFrom(State other) {
      base = other.base;
      stopPart = other.stopPart;
      stopReason = other.stopReason;
      for (int account = 0; account < ACCOUNTS; account++) {
        numerators[account] = other.numerators[account];
        denominators[account] = other.denominators[account];
      }
    }

    void store(int account, Ratio ratio) {
      if (isAccount(account)) {
        numerators[account] = (int) ratio.numerator;
        denominators[account] = (int) ratio.denominator;
      }
    }

    void stopAt(int part, int reason) {
      stopPart = part;
      stopReason = reason;
    }

    int numeratorOf(int account) {
      return isAccount(account) ? numerators[account] : 0;
    }

    int denominatorOf(int account) {
      return isAccount(account) ? denominators[account] : 1;
    }

    int wholeOf(int account) {
      return isAccount(account) && denominators[account] > 0
          ? numerators[account] / denominators[account] : 0;
    }

    long restOf(int account) {
      return isAccount(account) && denominators[account] > 0
          ? numerators[account] % denominators[account] : 0;
    }

    double asDouble(int account) {
      return isAccount(account) && denominators[account] > 0
          ? (double) numerators[account] / (double) denominators[account] : 0.0;
    }
  }

  /** The saved states, in a ring in which the newest one takes the place of the oldest one. */
  private static final class History {
    int count = 0;
    private int next = 0;
    private final State[] ring = new State[MOST_SAVED];

    History() {
      for (int slot = 0; slot < MOST_SAVED; slot++) {
        ring[slot] = new State();
      }
    }

    void push(State state) {
      if (next >= 0 && next < MOST_SAVED && ring[next] != null) {
        ring[next].takeFrom(state);
      }
      next = next + 1 < MOST_SAVED ? next + 1 : 0;
      count = Math.min(count + 1, MOST_SAVED);
    }

    void pop(State state) {
      next = next > 0 ? next - 1 : MOST_SAVED - 1;
      count = Math.max(count - 1, 0);
      if (next < MOST_SAVED && ring[next] != null) {
        state.takeFrom(ring[next]);
      }
    }
  }

  /** Two whole parts added column by column. */
  private static final class ColumnSum {
    int length = 0;
    int carryCount = 0;
    int longest = 0;
    // One more than a whole part has, for the carry behind the last column.
    private final int[] digits = new int[MOST_WHOLE_DIGITS + 1];

    void form(int one, int two, int base) {
      int columns = Math.max(WholeDigits.count(one, base), WholeDigits.count(two, base));
      long restOne = one;
      long restTwo = two;
      long carry = 0;
      int chain = 0;
      carryCount = 0;
      longest = 0;
      for (int column = 0; column < columns && column < MOST_WHOLE_DIGITS; column++) {
        long together = Numbers.left(restOne, base) + Numbers.left(restTwo, base) + carry;
        carry = together >= base ? 1 : 0;
        chain = carry == 1 ? chain + 1 : 0;
        carryCount += chain > 0 ? 1 : 0;
        longest = Math.max(longest, chain);
        digits[column] = (int) Numbers.left(together, base);
        restOne = Numbers.quotient(restOne, base);
        restTwo = Numbers.quotient(restTwo, base);
      }
      length = columns;
      if (carry == 1 && columns < digits.length) {
        digits[columns] = 1;
        length = columns + 1;
      }
    }

    int digitAt(int column) {
      return column >= 0 && column < digits.length ? digits[column] : 0;
    }

    long total(int base) {
      long sum = 0;
      for (int column = length - 1; column >= 0; column--) {
        sum = sum * base + digitAt(column);
      }
      return sum;
    }
  }

  /** Which characters may come next in entries as a text. */
  private static final class Syntax {

    private static final int NOTHING = 0;
    private static final int PART = 1;
    private static final int SIGN = 2;
    private static final int OTHER = 3;
    private static final int BASE = 4;
    private static final int BASE_FROM_TEN = 5;
    private static final int NUMBER = 6;
    private static final int BEHIND_ZERO = 7;
    private static final int WHOLE = 8;
    private static final int BEHIND_POINT = 9;
    private static final int HEAD = 10;
    private static final int PERIOD_START = 11;
    private static final int PERIOD = 12;
    private static final int PART_END = 13;

    private static final int MOST_WHOLE = 8;
    private static final int MOST_BEHIND = 4;

    private int expected = PART;
    // Digits of the run of digits that is being read.
    private int run = 0;

    void begin() {
      expected = PART;
      run = 0;
    }

    /** Reads a character; returns false if it is a syntax error. */
    boolean take(int code) {
      int next = expectedAfter(code);
      run = next == expected ? run + 1 : 1;
      expected = next;
      return next != NOTHING;
    }

    boolean mayEnd() {
      return expected == BEHIND_ZERO || expected == WHOLE || expected == HEAD
          || expected == PART_END;
    }

    private int expectedAfter(int code) {
      switch (expected) {
        case PART:
          return code == 'b' ? BASE : onlyIf(isAccountCode(code), SIGN);
        case SIGN:
          return code == '=' ? NUMBER : onlyIf(code == '+' || code == '-', OTHER);
        case OTHER:
          return onlyIf(isAccountCode(code), PART_END);
        case BASE:
          return code == '1' ? BASE_FROM_TEN : onlyIf(code >= '2' && code <= '9', PART_END);
        case BASE_FROM_TEN:
          return onlyIf(code >= '0' && code <= '6', PART_END);
        case PART_END:
          return onlyIf(code == ';', PART);
        default:
          return expectedInNumber(code);
      }
    }

    private int expectedInNumber(int code) {
      boolean digit = digitOf(code) >= 0;
      switch (expected) {
        case NUMBER:
          return code == '0' ? BEHIND_ZERO : onlyIf(digit, WHOLE);
        case BEHIND_ZERO:
          return code == '.' ? BEHIND_POINT : onlyIf(code == ';', PART);
        case WHOLE:
          if (digit) {
            return onlyIf(run < MOST_WHOLE, WHOLE);
          }
          return code == '.' ? BEHIND_POINT : onlyIf(code == ';', PART);
        case BEHIND_POINT:
          return code == '(' ? PERIOD_START : onlyIf(digit, HEAD);
        case HEAD:
          if (digit) {
            return onlyIf(run < MOST_BEHIND, HEAD);
          }
          return code == '(' ? PERIOD_START : onlyIf(code == ';', PART);
        case PERIOD_START:
          return onlyIf(digit, PERIOD);
        case PERIOD:
          return digit ? onlyIf(run < MOST_BEHIND, PERIOD) : onlyIf(code == ')', PART_END);
        default:
          return NOTHING;
      }
    }

    private static int onlyIf(boolean allowed, int next) {
      return allowed ? next : NOTHING;
    }

    private static boolean isAccountCode(int code) {
      return code >= '0' && code < '0' + ACCOUNTS;
    }

    /** The digit that a character tells, -1 if none. */
    static int digitOf(int code) {
      if (code >= '0' && code <= '9') {
        return code - '0';
      }
      return code >= 'a' && code <= 'f' ? code - 'a' + 10 : -1;
    }
  }

  /** The buffer. */
  private static final class Entries {
    int length = 0;
    private final int[] codes = new int[MOST_CHARACTERS];
    private final Syntax syntax = new Syntax();

    void put(int code) {
      if (length >= 0 && length < MOST_CHARACTERS) {
        codes[length] = code;
        length++;
      }
    }

    int codeAt(int index) {
      return index >= 0 && index < MOST_CHARACTERS ? codes[index] : 0;
    }

    int errorIndex() {
      syntax.begin();
      for (int index = 0; index < length; index++) {
        if (!syntax.take(codeAt(index))) {
          return index;
        }
      }
      return length;
    }

    boolean areComplete() {
      return errorIndex() == length && syntax.mayEnd();
    }

    int decimal(int start, int end) {
      int value = 0;
      for (int index = start; index < end; index++) {
        value = 10 * value + codeAt(index) - '0';
      }
      return value;
    }
  }

  /** A number as a text, read digit by digit in a base. */
  private static final class NumberText {
    boolean hasGreatDigit = false;
    private int base = FIRST_BASE;
    private boolean behindPoint = false;
    private boolean inPeriod = false;
    private long whole = 0;
    private long head = 0;
    private long headScale = 1;
    private long period = 0;
    private long periodScale = 1;

    void begin(int ofBase) {
      base = ofBase;
      hasGreatDigit = false;
      behindPoint = false;
      inPeriod = false;
      whole = 0;
      head = 0;
      headScale = 1;
      period = 0;
      periodScale = 1;
    }

    void take(int code) {
      if (code == '.') {
        behindPoint = true;
      } else if (code == '(') {
        inPeriod = true;
      } else if (code != ')') {
        takeDigit(Syntax.digitOf(code));
      }
    }

    private void takeDigit(int digit) {
      hasGreatDigit = hasGreatDigit || digit >= base;
      if (inPeriod) {
        period = period * base + digit;
        periodScale = periodScale * base;
      } else if (behindPoint) {
        head = head * base + digit;
        headScale = headScale * base;
      } else {
        whole = whole * base + digit;
      }
    }

    void putInto(Ratio ratio) {
      if (inPeriod) {
        // A period p of n digits tells p / (base^n - 1), behind the head.
        long nines = periodScale - 1;
        ratio.put(head * nines + period, headScale * nines);
      } else {
        ratio.put(head, headScale);
      }
      // The rest has its least denominator first: the whole part times that of 8 digits behind
      // the point would not go into a long.
      if (ratio.denominator <= MOST_DENOMINATOR) {
        ratio.put(whole * ratio.denominator + ratio.numerator, ratio.denominator);
      }
    }
  }
}
