import java.lang.reflect.InvocationTargetException;
import java.lang.reflect.Method;
import java.util.ArrayList;
import java.util.List;

/** Calls told as texts, such as "setFraction 0 35 6", done to the program or to the model. */
final class Script {
  private Script() {}

  /** The outcome of each call; "type" and a text appends the text's characters. */
  static List<String> run(Object target, String... calls) throws ReflectiveOperationException {
    List<String> outcomes = new ArrayList<>();
    for (String call : calls) {
      String[] words = call.split(" ");
      if (words[0].equals("type")) {
        for (char c : words[1].toCharArray()) {
          outcomes.add(outcome(target, "append", c));
        }
      } else {
        outcomes.add(outcome(target, words[0], numbers(words)));
      }
    }
    return outcomes;
  }

  private static int[] numbers(String[] words) {
    int[] numbers = new int[words.length - 1];
    for (int index = 0; index < numbers.length; index++) {
      numbers[index] = Integer.parseInt(words[index + 1]);
    }
    return numbers;
  }

  /** What a call answers, as a text: the answer, or throws. and the exception's name. */
  static String outcome(Object target, String name, int... numbers)
      throws ReflectiveOperationException {
    Class<?>[] types = new Class<?>[numbers.length];
    Object[] arguments = new Object[numbers.length];
    for (int index = 0; index < numbers.length; index++) {
      types[index] = int.class;
      arguments[index] = numbers[index];
    }
    Method method = target.getClass().getMethod(name, types);
    try {
      return String.valueOf(method.invoke(target, arguments));
    } catch (InvocationTargetException thrown) {
      return "throws." + thrown.getCause().getClass().getSimpleName();
    }
  }
}
