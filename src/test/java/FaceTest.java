import java.lang.reflect.Constructor;
import java.lang.reflect.Field;
import java.lang.reflect.Method;
import java.lang.reflect.Modifier;
import java.util.Arrays;
import java.util.Set;
import java.util.TreeSet;

/** The public face is the document's and no more; what LANGUAGE.md says of members is kept. */
public final class FaceTest {
  private static final String[] FACE = {
    "variables/0", "order/1", "term/4", "zero/1", "size/1", "told/3", "plus/3", "times/3", "same/2", "vanishes/5",
    "generator/1", "clear/0", "basis/1", "done/1", "element/2", "share/3", "divide/2", "certificate/2", "check/0",
    "radical/2", "free/1", "stairs/0"};
  private static final int MOST_PARAMETERS = 7;
  private static final int MOST_FIELDS = 20;
  private static final int MOST_CLASSES = 12;
  private static int wrong = 0;

  private static void must(boolean holds, String what) {
    if (!holds) {
      wrong++;
      System.out.println("not so: " + what);
    }
  }

  private static boolean isPrivate(int modifiers) { return Modifier.isPrivate(modifiers); }

  private static void methodsOfTheFace() {
    Set<String> open = new TreeSet<>();
    Set<String> names = new TreeSet<>();
    for (String f : FACE) names.add(f.substring(0, f.indexOf('/')));
    for (Method m : IdealProver.class.getDeclaredMethods()) {
      if (isPrivate(m.getModifiers())) {
        must(!names.contains(m.getName()), "no private method is called " + m.getName());
        continue;
      }
      open.add(m.getName() + "/" + m.getParameterCount());
      must(Modifier.isPublic(m.getModifiers()) && !Modifier.isStatic(m.getModifiers()), m + " is public, not static");
      must(m.getReturnType() == int.class, m + " answers an int");
      for (Class<?> t : m.getParameterTypes()) must(t == int.class, m + " takes ints");
    }
    must(open.equals(new TreeSet<>(Arrays.asList(FACE))), "the face is the document's: " + open);
  }

  private static void membersOf(Class<?> c) {
    int fields = 0;
    for (Field f : c.getDeclaredFields()) {
      int m = f.getModifiers();
      if (c == IdealProver.class) must(isPrivate(m), f + " is private");
      if (Modifier.isStatic(m)) must(Modifier.isFinal(m), f + " is final"); else fields++;
    }
    must(fields <= MOST_FIELDS, c + " has few fields");
    for (Method m : c.getDeclaredMethods()) must(m.getParameterCount() <= MOST_PARAMETERS, m + " takes few parameters");
  }

  public static void main(String[] args) {
    Class<?> face = IdealProver.class;
    must(Modifier.isPublic(face.getModifiers()) && Modifier.isFinal(face.getModifiers()), "the class is public and final");
    Constructor<?>[] made = face.getDeclaredConstructors();
    must(made.length == 1 && Modifier.isPublic(made[0].getModifiers())
        && Arrays.equals(made[0].getParameterTypes(), new Class<?>[] {int.class}), "one constructor, of an int");
    methodsOfTheFace();
    membersOf(face);
    Class<?>[] inside = face.getDeclaredClasses();
    must(inside.length < MOST_CLASSES, "few classes");
    for (Class<?> c : inside) {
      must(Modifier.isStatic(c.getModifiers()) && !Modifier.isPublic(c.getModifiers()), c + " is static, not public");
      membersOf(c);
    }
    System.out.println(wrong == 0 ? "the face is as due" : wrong + " things are not as due");
    if (wrong != 0) System.exit(1);
  }
}
