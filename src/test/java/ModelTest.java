import java.lang.reflect.InvocationTargetException;
import java.lang.reflect.Method;
import java.util.ArrayList;
import java.util.Comparator;
import java.util.List;
import java.util.Random;

/** Long runs of calls, the same each time, on the program and on the model side by side. */
public final class ModelTest {
  private static final int RUNS = 600;
  private static final int CALLS = 512;
  private static final String[] CHANGES = {
    "setBase", "setFraction", "setFraction", "setFraction", "add", "subtract", "shift", "pay",
    "text", "text", "text", "enter", "enter", "undo", "keep", "restore", "append", "clearBuffer"
  };
  private static final int[] DENOMINATORS = {
    1, 2, 3, 4, 5, 6, 7, 8, 9, 10, 12, 16, 27, 36, 49, 64, 81, 97, 128, 216, 243, 256, 512, 625,
    729, 768, 864, 960, 991, 997, 998, 999
  };
  private static final int[] EDGES = {
    Integer.MIN_VALUE, -4, -3, -1, 0, 1, 2, 3, 4, 5, 6, 16, 17, 60, 998, 999, 1000, 2000, 2001,
    999999, 1000000, 999999999, 1000000000, Integer.MAX_VALUE
  };

  private final Check check = new Check();
  private final Random random = new Random(4513);
  private final List<Method> methods = new ArrayList<>();
  private SixCounts program;
  private Model model;
  private int calls = 0;

  public static void main(String[] args) throws Exception {
    ModelTest test = new ModelTest();
    test.runAll();
    test.check.end("ModelTest");
  }

  private ModelTest() {
    for (Method method : SixCounts.class.getDeclaredMethods()) {
      if (java.lang.reflect.Modifier.isPublic(method.getModifiers())) {
        methods.add(method);
      }
    }
    methods.sort(Comparator.comparing(Method::getName));
  }

  private void runAll() throws Exception {
    for (int run = 0; run < RUNS; run++) {
      program = new SixCounts();
      model = new Model();
      calls = 0;
      while (calls < CALLS) {
        oneStep("run " + run + ", from call " + calls + " on: ");
      }
    }
  }

  private void oneStep(String where) throws Exception {
    int kind = random.nextInt(10);
    if (kind < 4) {
      String change = CHANGES[random.nextInt(CHANGES.length)];
      if (change.equals("text")) {
        typeText(where);
      } else {
        both(where, methodNamed(change));
      }
    } else if (kind < 9) {
      both(where, methods.get(random.nextInt(methods.size())));
    } else {
      both(where, methodNamed("digest"));
    }
  }

  private Method methodNamed(String name) {
    return methods.stream().filter(m -> m.getName().equals(name)).findFirst().orElseThrow();
  }

  private void both(String where, Method method) throws Exception {
    Object[] args = new Object[method.getParameterCount()];
    for (int index = 0; index < args.length; index++) {
      args[index] = argument(method.getName(), index);
    }
    both(where, method, args);
  }

  private void both(String where, Method method, Object[] args) throws Exception {
    if (calls >= CALLS) {
      return;
    }
    calls++;
    Method same = Model.class.getMethod(method.getName(), method.getParameterTypes());
    String due = answer(model, same, args);
    String got = answer(program, method, args);
    String what = where + method.getName() + java.util.Arrays.toString(args);
    check.same(what, due, got);
  }

  private static String answer(Object object, Method method, Object[] args) throws Exception {
    try {
      return String.valueOf(method.invoke(object, args));
    } catch (InvocationTargetException thrown) {
      return "throws." + thrown.getCause().getClass().getSimpleName();
    }
  }

  private int argument(String name, int index) {
    if (random.nextInt(25) == 0) {
      return EDGES[random.nextInt(EDGES.length)];
    }
    switch (name + index) {
      case "setBase0", "readIn1":
        return 2 + random.nextInt(15);
      case "setFraction1":
        int[] mosts = {1000000000, 99999, 99};
        return random.nextInt(mosts[random.nextInt(mosts.length)]);
      case "setFraction2":
        return random.nextInt(3) == 0
            ? 1 + random.nextInt(999) : DENOMINATORS[random.nextInt(DENOMINATORS.length)];
      case "shift1":
        return random.nextInt(7) - 3;
      case "pay2":
        return 1 + random.nextInt(random.nextBoolean() ? 20 : 999999);
      case "append0":
        return 33 + random.nextInt(94);
      case "wholeDigit1", "wholeDigitByPowers1", "sumDigit2", "writtenAt1":
        return random.nextInt(random.nextInt(3) == 0 ? 35 : 8);
      case "digitBehind1":
        return random.nextInt(2001);
      default:
        return random.nextInt(6);
    }
  }

  /** Types entries that are mostly right, and looks for errors at some of the characters. */
  private void typeText(String where) throws Exception {
    StringBuilder text = new StringBuilder();
    for (int parts = 1 + random.nextInt(4); parts > 0; parts--) {
      text.append(text.length() == 0 ? "" : ";").append(part());
    }
    if (random.nextInt(5) == 0) {
      String signs = "0123456789abcdefg;=+-.()~!B";
      text.setCharAt(random.nextInt(text.length()), signs.charAt(random.nextInt(signs.length())));
    }
    if (random.nextInt(4) > 0) {
      both(where, methodNamed("clearBuffer"));
    }
    for (int index = 0; index < text.length(); index++) {
      both(where, methodNamed("append"), new Object[] {(int) text.charAt(index)});
    }
    both(where, methodNamed("firstError"));
    if (random.nextInt(4) > 0) {
      both(where, methodNamed("enter"));
      both(where, methodNamed("hasStopped"));
      both(where, methodNamed("stoppedPart"));
      both(where, methodNamed("whyStopped"));
    }
  }

  private String part() {
    int account = random.nextInt(6);
    switch (random.nextInt(5)) {
      case 0:
        return account + "+" + random.nextInt(6);
      case 1:
        return account + "-" + random.nextInt(6);
      case 2:
        return "b" + (2 + random.nextInt(15));
      default:
        return account + "=" + number();
    }
  }

  private String number() {
    int base = random.nextInt(8) == 0 ? 16 : model.base();
    String text = random.nextInt(3) == 0 ? "0" : digits(base, random.nextInt(4) == 0 ? 9 : 4);
    int kind = random.nextInt(5);
    if (kind < 2) {
      return text;
    }
    text += ".";
    if (kind != 2) {
      text += digits(base, random.nextInt(9) == 0 ? 5 : random.nextBoolean() ? 2 : 4);
    }
    return kind == 3 ? text : text + "(" + digits(base, random.nextBoolean() ? 2 : 4) + ")";
  }

  private String digits(int base, int most) {
    StringBuilder digits = new StringBuilder();
    for (int count = 1 + random.nextInt(most); count > 0; count--) {
      digits.append(Character.forDigit(random.nextInt(base), 16));
    }
    return digits.toString();
  }
}
