import java.util.ArrayList;
import java.util.HashSet;
import java.util.List;
import java.util.Set;

/**
 * Each call that throws, at the edges of its arguments and in several states: it throws what the
 * model throws, and whatever can be asked of the object then is as if it had not been called.
 */
final class RefusedCallEdges extends Edges {
  private static final int LEAST = Integer.MIN_VALUE;
  private static final int GREATEST = Integer.MAX_VALUE;

  private static final String[][] STATES = {
    // Nothing is saved, there is no snapshot, no stop and no text.
    {},
    // All is as full as can be, behind a stop, with another stop in the snapshot.
    {
      "setFraction 0 7 2", "type b7;1-0", "enter", "keep", "setFraction 0 999999999 1",
      "setFraction 1 1 999", "setFraction 2 999999999 998", "setFraction 3 1 997",
      "setFraction 5 2 1", "setBase 16", "type b10;0=a", "enter", "type " + fullText()
    },
    // A text that is not complete, one saved state, a snapshot of the beginning.
    {"keep", "setFraction 4 5 1", "type b2;0=1;"},
    // A text with an error, and less than 6 saved states, some of them dropped.
    {"setBase 3", "setFraction 2 35 36", "undo", "add 2 2", "type x", "setFraction 0 100000000 1"},
    // Complete entries, which no other call may do.
    {"setBase 10", "setFraction 1 4 9", "type 0=1;1=0.5", "restore"}
  };

  private final Set<String> seen = new HashSet<>();

  RefusedCallEdges(Check check, Doc doc) {
    super(check, doc);
  }

  @Override
  void run() throws ReflectiveOperationException {
    says("Exceptions", "A call that throws an exception changes nothing");
    for (String[] state : STATES) {
      List<String> due = observed(begun(state));
      for (Doc.Face face : doc.faces()) {
        for (int[] arguments : combinations(face)) {
          call(face, arguments, state, due);
        }
      }
    }
    for (Doc.Face face : doc.faces()) {
      for (String exception : face.thrown()) {
        same(face.name() + " throws." + exception + " true",
            face.name() + " throws." + exception + " "
                + seen.contains(face.name() + " throws." + exception));
      }
    }
  }

  private static SixCounts begun(String[] state) throws ReflectiveOperationException {
    SixCounts house = new SixCounts();
    Script.run(house, state);
    return house;
  }

  private void call(Doc.Face face, int[] arguments, String[] state, List<String> dueThen)
      throws ReflectiveOperationException {
    Model model = new Model();
    Script.run(model, state);
    String due = Script.outcome(model, face.name(), arguments);
    if (due.startsWith("throws.")) {
      SixCounts house = begun(state);
      same(due, Script.outcome(house, face.name(), arguments));
      same(dueThen, observed(house));
      seen.add(face.name() + " " + due);
    }
  }

  /** All that can be asked: the state, the text, the snapshot and each saved state. */
  private static List<String> observed(SixCounts house) throws ReflectiveOperationException {
    List<String> seen = new ArrayList<>(Script.run(house, "digest", "firstError"));
    seen.addAll(Script.run(house, "clearBuffer", "digest", "savedStates"));
    for (int times = 0; times < 7; times++) {
      seen.addAll(Script.run(house, "undo", "digest"));
    }
    seen.addAll(Script.run(house, "restore", "digest", "undo", "digest"));
    return seen;
  }

  private static List<int[]> combinations(Doc.Face face) {
    List<int[]> rows = new ArrayList<>();
    rows.add(new int[face.parameters().size()]);
    for (int index = 0; index < face.parameters().size(); index++) {
      List<int[]> longer = new ArrayList<>();
      for (int[] row : rows) {
        for (int value : edges(face.parameters().get(index))) {
          int[] next = row.clone();
          next[index] = value;
          longer.add(next);
        }
      }
      rows = longer;
    }
    return rows;
  }

  /** The values at a range's ends, just beyond them and far off. */
  private static int[] edges(String parameter) {
    switch (parameter) {
      case "account", "other":
        return new int[] {LEAST, -1, 0, 1, 2, 3, 4, 5, 6, GREATEST};
      case "base":
        return new int[] {LEAST, 0, 1, 2, 16, 17, GREATEST};
      case "numerator":
        return new int[] {LEAST, -1, 0, MOST, MOST + 1, GREATEST};
      case "denominator":
        return new int[] {LEAST, -1, 0, 1, 999, 1000, GREATEST};
      case "digits":
        return new int[] {LEAST, -4, -3, -1, 0, 1, 3, 4, GREATEST};
      case "coins":
        return new int[] {LEAST, -1, 0, 1, 999999, 1000000, GREATEST};
      case "code":
        return new int[] {LEAST, -1, 0, 32, 33, 126, 127, GREATEST};
      case "column":
        return new int[] {LEAST, -1, 0, 1, 8, 29, 30, 31, GREATEST};
      case "place":
        return new int[] {LEAST, -1, 0, 1, 30, 2000, 2001, GREATEST};
      default:
        throw new IllegalArgumentException(parameter);
    }
  }
}
