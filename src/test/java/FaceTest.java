import java.lang.reflect.Constructor;
import java.lang.reflect.Field;
import java.lang.reflect.Method;
import java.lang.reflect.Modifier;
import java.util.Set;
import java.util.TreeSet;

/** The document's face, and no other member that can be seen (LANGUAGE.md, rules 1 and 5). */
public final class FaceTest {
  private static final String[] FACE = {
    "int district(int) IllegalArgumentException UnsupportedOperationException",
    "int party() UnsupportedOperationException",
    "void votes(int,int,int) IndexOutOfBoundsException IllegalArgumentException",
    "void weigh(boolean)",
    "void threshold(int) IllegalArgumentException",
    "void lot(int,int) IndexOutOfBoundsException",
    "int count(boolean)",
    "int share(int) IllegalStateException IndexOutOfBoundsException",
    "boolean tied(int) IllegalStateException IndexOutOfBoundsException",
    "boolean solve() IllegalStateException",
    "int seats(int,int,boolean) IllegalStateException IndexOutOfBoundsException",
    "boolean unique() IllegalStateException",
    "long number(boolean,int,boolean) IllegalStateException IndexOutOfBoundsException"
        + " NoSuchElementException",
    "boolean blocks(boolean,int) IllegalStateException IndexOutOfBoundsException",
    "void propose(int,int,int) IndexOutOfBoundsException IllegalArgumentException",
    "int judge() IllegalStateException",
  };

  public static void main(String[] args) {
    Class<?> face = TwoWaySeats.class;
    int shape = Modifier.PUBLIC | Modifier.FINAL;
    Check.due("public and final", shape, face.getModifiers());
    Constructor<?>[] made = face.getDeclaredConstructors();
    Check.due("constructors", 1, made.length);
    Check.due("its constructor", "public TwoWaySeats()", made[0].toString());
    Set<String> seen = new TreeSet<>();
    Set<String> names = new TreeSet<>();
    for (Method method : face.getDeclaredMethods()) {
      if (!Modifier.isPrivate(method.getModifiers())) {
        seen.add(told(method));
        names.add(method.getName());
      }
    }
    Check.due("methods", new TreeSet<>(Set.of(FACE)), seen);
    for (Method method : face.getDeclaredMethods()) {
      boolean hidden = Modifier.isPrivate(method.getModifiers());
      Check.due("a private " + method.getName(), false, hidden && names.contains(method.getName()));
    }
    for (Field field : face.getDeclaredFields()) {
      Check.due(field + " is private", true, Modifier.isPrivate(field.getModifiers()));
      checkStatic(field);
    }
    for (Class<?> inside : face.getDeclaredClasses()) {
      Check.due(inside + " is static", true, Modifier.isStatic(inside.getModifiers()));
      Check.due(inside + " is public", false, Modifier.isPublic(inside.getModifiers()));
      for (Field field : inside.getDeclaredFields()) {
        checkStatic(field);
      }
    }
    Check.end();
  }

  private static void checkStatic(Field field) {
    int how = field.getModifiers();
    Check.due(field + " changes", false, Modifier.isStatic(how) && !Modifier.isFinal(how));
  }

  private static String told(Method method) {
    StringBuilder text = new StringBuilder();
    text.append(method.getReturnType().getSimpleName()).append(" ").append(method.getName());
    text.append("(");
    for (Class<?> type : method.getParameterTypes()) {
      text.append(text.charAt(text.length() - 1) == '(' ? "" : ",").append(type.getSimpleName());
    }
    text.append(")");
    for (Class<?> type : method.getExceptionTypes()) {
      text.append(" ").append(type.getSimpleName());
    }
    return text.toString();
  }
}
