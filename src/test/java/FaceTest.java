import java.lang.reflect.Constructor;
import java.lang.reflect.Field;
import java.lang.reflect.Method;
import java.lang.reflect.Modifier;
import java.util.ArrayList;
import java.util.List;
import java.util.Set;
import java.util.TreeSet;

/** The face is the document's, and nothing else of the class is seen from outside. */
public final class FaceTest {
  private static final String[] FACE = {
    "int setBase(int) IllegalArgumentException",
    "int setFraction(int,int,int) IndexOutOfBoundsException,IllegalArgumentException",
    "int add(int,int) IndexOutOfBoundsException,IllegalStateException",
    "int subtract(int,int) IndexOutOfBoundsException,IllegalStateException",
    "int shift(int,int) IndexOutOfBoundsException,IllegalArgumentException,IllegalStateException",
    "int pay(int,int,int) "
        + "IndexOutOfBoundsException,IllegalArgumentException,IllegalStateException",
    "int append(int) IllegalArgumentException,IllegalStateException",
    "int clearBuffer() ",
    "int firstError() ",
    "int enter() IllegalArgumentException",
    "boolean hasStopped() ",
    "int stoppedPart() IllegalStateException",
    "int whyStopped() IllegalStateException",
    "int undo() IllegalStateException",
    "int keep() ",
    "int restore() IllegalStateException",
    "int savedStates() ",
    "int base() ",
    "int numerator(int) IndexOutOfBoundsException",
    "int denominator(int) IndexOutOfBoundsException",
    "int whole(int) IndexOutOfBoundsException",
    "int compare(int,int) IndexOutOfBoundsException",
    "int richest() ",
    "int wholeDigits(int) IndexOutOfBoundsException",
    "int wholeDigit(int,int) IndexOutOfBoundsException",
    "int wholeDigitByPowers(int,int) IndexOutOfBoundsException",
    "int digitSum(int) IndexOutOfBoundsException",
    "int leftByDigits(int) IndexOutOfBoundsException",
    "int leftByDividing(int) IndexOutOfBoundsException",
    "int headLength(int) IndexOutOfBoundsException",
    "int periodLength(int) IndexOutOfBoundsException",
    "int periodByOrder(int) IndexOutOfBoundsException",
    "int digitBehind(int,int) IndexOutOfBoundsException,IllegalArgumentException",
    "int shortestBase(int) IndexOutOfBoundsException",
    "int writtenLength(int) IndexOutOfBoundsException",
    "int writtenAt(int,int) IndexOutOfBoundsException",
    "int carries(int,int) IndexOutOfBoundsException",
    "int longestChain(int,int) IndexOutOfBoundsException",
    "int sumDigit(int,int,int) IndexOutOfBoundsException",
    "long sumByColumns(int,int) IndexOutOfBoundsException",
    "long readIn(int,int) IndexOutOfBoundsException,IllegalArgumentException",
    "int whyNoSum(int,int) IndexOutOfBoundsException",
    "int periodOfSum(int,int) IndexOutOfBoundsException",
    "double shareOf(int) IndexOutOfBoundsException",
    "long digest() "
  };

  private final Check check = new Check();

  public static void main(String[] args) {
    FaceTest test = new FaceTest();
    test.methods();
    test.hiddenMembers();
    test.nestedClasses();
    test.check.end("FaceTest");
  }

  private void methods() {
    Set<String> found = new TreeSet<>();
    for (Method method : SixCounts.class.getDeclaredMethods()) {
      if (Modifier.isPublic(method.getModifiers())) {
        found.add(method.getReturnType() + " " + method.getName()
            + "(" + names(method.getParameterTypes()) + ") " + names(method.getExceptionTypes()));
        check.same(method + " is of an object", false, Modifier.isStatic(method.getModifiers()));
      }
    }
    check.same("the face", new TreeSet<>(List.of(FACE)), found);
  }

  private static String names(Class<?>[] types) {
    List<String> names = new ArrayList<>();
    for (Class<?> type : types) {
      names.add(type.getSimpleName());
    }
    return String.join(",", names);
  }

  private void hiddenMembers() {
    Set<String> face = new TreeSet<>();
    for (Method method : SixCounts.class.getDeclaredMethods()) {
      if (Modifier.isPublic(method.getModifiers())) {
        face.add(method.getName());
      }
    }
    for (Method method : SixCounts.class.getDeclaredMethods()) {
      if (!Modifier.isPublic(method.getModifiers())) {
        check.same(method + " is private", true, Modifier.isPrivate(method.getModifiers()));
        check.same(method + " has its own name", false, face.contains(method.getName()));
      }
    }
    for (Field field : SixCounts.class.getDeclaredFields()) {
      check.same(field + " is private", true, Modifier.isPrivate(field.getModifiers()));
    }
    Constructor<?>[] constructors = SixCounts.class.getDeclaredConstructors();
    check.same("constructors", 1, constructors.length);
    check.same("without arguments", 0, constructors[0].getParameterCount());
    check.same("public", true, Modifier.isPublic(constructors[0].getModifiers()));
    check.same("final", true, Modifier.isFinal(SixCounts.class.getModifiers()));
  }

  private void nestedClasses() {
    Class<?>[] nested = SixCounts.class.getDeclaredClasses();
    check.same("twelve classes at most", true, nested.length + 1 <= 12);
    for (Class<?> each : nested) {
      check.same(each + " is private", true, Modifier.isPrivate(each.getModifiers()));
      check.same(each + " is static", true, Modifier.isStatic(each.getModifiers()));
      for (Field field : each.getDeclaredFields()) {
        boolean variable = !Modifier.isFinal(field.getModifiers());
        check.same(field + " is no static variable", false,
            variable && Modifier.isStatic(field.getModifiers()));
      }
    }
  }
}
