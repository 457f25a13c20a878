import java.lang.reflect.Constructor;
import java.lang.reflect.Field;
import java.lang.reflect.Method;
import java.lang.reflect.Modifier;
import java.util.ArrayList;
import java.util.Arrays;
import java.util.List;
import java.util.TreeSet;

/** The class has the public face of the document, and no other member that can be seen outside. */
public final class FaceTest {
  private static final List<String> FACE = Arrays.asList(
      "octet(int)", "cut(int)", "byteAt(int)", "words()",
      "learn(int)", "pair(int, int)", "count(int)", "size(int)",
      "decode(int, int) throws java.lang.ArrayIndexOutOfBoundsException",
      "tokens()", "at(int)", "from(int)",
      "points(int, int)", "best()", "bestAt(int)", "sum()", "ways()");

  private static int wrong = 0;

  private static void due(String what, Object got, Object want) {
    if (!got.equals(want)) {
      wrong++;
      System.out.println(what + " is " + got + ", due is " + want);
    }
  }

  private static String told(Method method) {
    StringBuilder s = new StringBuilder(method.getName());
    s.append(types("(", method.getParameterTypes())).append(")");
    if (method.getExceptionTypes().length > 0) {
      s.append(types(" throws ", method.getExceptionTypes()));
    }
    return s.toString();
  }

  private static String types(String ahead, Class<?>[] classes) {
    List<String> names = new ArrayList<>();
    for (Class<?> c : classes) {
      names.add(c.getName());
    }
    return ahead + String.join(", ", names);
  }

  public static void main(String[] args) {
    due("the class's modifiers", Modifier.toString(PairTokens.class.getModifiers()), "public final");

    TreeSet<String> methods = new TreeSet<>();
    TreeSet<String> hidden = new TreeSet<>();
    for (Method method : PairTokens.class.getDeclaredMethods()) {
      if (Modifier.isPrivate(method.getModifiers())) {
        hidden.add(method.getName());
        continue;
      }
      methods.add(told(method));
      due("modifiers of " + method.getName(), Modifier.toString(method.getModifiers()), "public");
      due("answer of " + method.getName(), method.getReturnType(), int.class);
    }
    due("the face", methods, new TreeSet<>(FACE));

    for (String name : hidden) {
      for (String call : FACE) {
        due("private " + name + " named like a call", call.startsWith(name + "("), false);
      }
    }

    Constructor<?>[] constructors = PairTokens.class.getDeclaredConstructors();
    due("number of constructors", constructors.length, 1);
    due("parameters of the constructor", constructors[0].getParameterCount(), 0);
    due("constructor", Modifier.toString(constructors[0].getModifiers()), "public");

    for (Field field : PairTokens.class.getDeclaredFields()) {
      due(field.getName() + " is private", Modifier.isPrivate(field.getModifiers()), true);
      if (Modifier.isStatic(field.getModifiers())) {
        due(field.getName() + " is final", Modifier.isFinal(field.getModifiers()), true);
      }
    }
    for (Class<?> inside : PairTokens.class.getDeclaredClasses()) {
      due(inside.getName() + " is static", Modifier.isStatic(inside.getModifiers()), true);
      due(inside.getName() + " is public", Modifier.isPublic(inside.getModifiers()), false);
    }

    System.out.println(wrong == 0 ? "the face is as due" : wrong + " things are not as due");
    if (wrong != 0) {
      System.exit(1);
    }
  }
}
