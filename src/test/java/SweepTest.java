/** Every denominator in every base, against the model: heads, periods and the shortest base. */
public final class SweepTest {
  public static void main(String[] args) {
    Check check = new Check();
    for (int denominator = 1; denominator <= 999; denominator++) {
      SixCounts program = new SixCounts();
      Model model = new Model();
      program.setFraction(0, denominator + 1, denominator);
      model.setFraction(0, denominator + 1, denominator);
      check.same("shortest of " + denominator, model.shortestBase(0), program.shortestBase(0));
      for (int base = 2; base <= 16; base++) {
        String what = " of " + denominator + " in " + base;
        program.setBase(base);
        model.setBase(base);
        check.same("head" + what, model.headLength(0), program.headLength(0));
        check.same("period" + what, model.periodLength(0), program.periodLength(0));
        check.same("order" + what, model.periodLength(0), program.periodByOrder(0));
        check.same("length" + what, model.writtenLength(0), program.writtenLength(0));
      }
    }
    sums(check);
    check.end("SweepTest");
  }

  private static void sums(Check check) {
    for (int denominator = 900; denominator <= 999; denominator += 9) {
      SixCounts program = new SixCounts();
      Model model = new Model();
      for (int other = 901; other <= 999; other += 14) {
        program.setFraction(0, 1, denominator);
        program.setFraction(1, 1, other);
        model.setFraction(0, 1, denominator);
        model.setFraction(1, 1, other);
        int base = 2 + (denominator + other) % 15;
        program.setBase(base);
        model.setBase(base);
        String what = "period of 1/" + denominator + " + 1/" + other + " in " + base;
        check.same(what, model.periodOfSum(0, 1), program.periodOfSum(0, 1));
      }
    }
  }
}
