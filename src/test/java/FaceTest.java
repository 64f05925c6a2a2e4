import java.lang.reflect.Constructor;
import java.lang.reflect.Field;
import java.lang.reflect.Method;
import java.lang.reflect.Modifier;
import java.util.Set;
import java.util.TreeSet;

/** The public face: what the document lists, and nothing else that can be seen from outside. */
public final class FaceTest {
  private static final Set<String> FACE = Set.of(
      "boolean type(int) IllegalArgumentException", "int define() IllegalArgumentException",
      "boolean drop(int) IndexOutOfBoundsException", "char shown(int,int)", "boolean text(int) IllegalArgumentException",
      "int clear()", "int check(int) IndexOutOfBoundsException",
      "int match(int,int) IndexOutOfBoundsException IllegalStateException",
      "int find(int) IndexOutOfBoundsException IllegalStateException", "int captures()",
      "int capture(int,int) IndexOutOfBoundsException", "int farthest()", "int tried()");

  private static int wrong = 0;

  private static void due(String what, Object got, Object want) {
    if (!got.equals(want)) {
      wrong++;
      System.out.println(what + " is " + got + ", due is " + want);
    }
  }

  private static String names(Class<?>[] classes, String before, String between) {
    StringBuilder s = new StringBuilder();
    for (Class<?> c : classes) s.append(s.length() == 0 ? before : between).append(c.getSimpleName());
    return s.toString();
  }

  public static void main(String[] args) {
    Class<?> machine = GrammarMachine.class;
    due("public final", machine.getModifiers(), Modifier.PUBLIC | Modifier.FINAL);
    Set<String> seen = new TreeSet<>();
    Set<String> publicNames = new TreeSet<>();
    Set<String> privateNames = new TreeSet<>();
    for (Method m : machine.getDeclaredMethods()) {
      if (Modifier.isPrivate(m.getModifiers())) {
        privateNames.add(m.getName());
        continue;
      }
      publicNames.add(m.getName());
      due(m.getName() + " is a plain public method", m.getModifiers(), Modifier.PUBLIC);
      seen.add(m.getReturnType().getSimpleName() + " " + m.getName() + "(" + names(m.getParameterTypes(), "", ",") + ")"
          + names(m.getExceptionTypes(), " ", " "));
    }
    due("the methods", seen, new TreeSet<>(FACE));
    privateNames.retainAll(publicNames);
    due("private methods with the name of a public one", privateNames, Set.of());
    due("constructors", machine.getDeclaredConstructors().length, 1);
    for (Constructor<?> c : machine.getDeclaredConstructors()) {
      due("the constructor", c.getModifiers() + " " + c.getParameterCount(), Modifier.PUBLIC + " 0");
    }
    for (Field f : machine.getDeclaredFields()) due(f.getName() + " is private", Modifier.isPrivate(f.getModifiers()), true);
    System.out.println(wrong == 0 ? "the face is as due" : wrong + " things are not as due");
    if (wrong != 0) System.exit(1);
  }
}
