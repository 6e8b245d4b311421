import java.util.Arrays;
import java.util.List;

/** The arguments account and other of every method that has them: 0 to 5, and nothing else. */
final class ArgumentEdges extends Edges {
  private static final String[] BEFORE = {
    "setFraction 0 1000 7", "setFraction 1 2000 9", "setFraction 2 3000 1", "setFraction 3 41 3",
    "setFraction 4 52 5", "setFraction 5 63 8"
  };

  ArgumentEdges(Check check, Doc doc) {
    super(check, doc);
  }

  @Override
  void run() throws ReflectiveOperationException {
    for (Doc.Face face : doc.faces()) {
      for (int index = 0; index < face.parameters().size(); index++) {
        String parameter = face.parameters().get(index);
        if (parameter.equals("account") || parameter.equals("other")) {
          inside(face, index);
          outside(face, index);
        }
      }
    }
  }

  /** The other arguments are in their ranges. */
  private static int[] arguments(Doc.Face face, int index, int account) {
    int[] arguments = new int[face.parameters().size()];
    for (int each = 0; each < arguments.length; each++) {
      switch (face.parameters().get(each)) {
        case "account", "other" -> arguments[each] = account == 0 ? 1 : 0;
        case "column", "place" -> arguments[each] = 0;
        case "base" -> arguments[each] = 16;
        default -> arguments[each] = 1;
      }
    }
    arguments[index] = account;
    return arguments;
  }

  private void inside(Doc.Face face, int index) throws ReflectiveOperationException {
    says(doc.promiseOf(face.name()), face.parameters().get(index) + ": 0 to 5");
    for (int account = 0; account < 6; account++) {
      int[] arguments = arguments(face, index, account);
      fresh();
      Model model = new Model();
      Script.run(model, BEFORE);
      Script.run(x, BEFORE);
      String due = Script.outcome(model, face.name(), arguments);
      same(false, due.equals("throws.IndexOutOfBoundsException"));
      same(due, Script.outcome(x, face.name(), arguments));
      for (int each = 0; each < 6; each++) {
        has(each, model.numerator(each), model.denominator(each));
      }
    }
  }

  private void outside(Doc.Face face, int index) throws ReflectiveOperationException {
    int promise = doc.promiseOf(face.name());
    says(promise, "Throws IndexOutOfBoundsException if there is no such account");
    List<String> due = List.of("throws.IndexOutOfBoundsException");
    Script.run(x, BEFORE);
    long before = x.digest();
    for (int account : NO_ACCOUNTS) {
      int[] arguments = arguments(face, index, account);
      same(due, List.of(Script.outcome(x, face.name(), arguments)));
      Arrays.fill(arguments, account);
      same(due, List.of(Script.outcome(x, face.name(), arguments)));
    }
    same(before, x.digest());
  }
}
