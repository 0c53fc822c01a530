import java.io.IOException;
import java.lang.reflect.Constructor;
import java.lang.reflect.Field;
import java.lang.reflect.Member;
import java.lang.reflect.Method;
import java.lang.reflect.Modifier;
import java.nio.file.Files;
import java.nio.file.Path;
import java.util.ArrayList;
import java.util.Arrays;
import java.util.List;
import java.util.TreeSet;

/** The document's public face, and the rules of LANGUAGE.md on it. */
public final class FaceTest {
  private static final Check check = new Check();

  private static final String[] FACE = {
    "boolean is(int, int)",
    "int add(int, int, int, int)"
        + " throws IndexOutOfBoundsException, UnsupportedOperationException, IllegalArgumentException",
    "int catches(int, int)",
    "int change(int, int, int, int, int) throws IndexOutOfBoundsException, IllegalArgumentException",
    "int escaped()",
    "int handler(int, int, int, int, int)"
        + " throws IndexOutOfBoundsException, UnsupportedOperationException, IllegalArgumentException",
    "int kind(int) throws IllegalArgumentException, UnsupportedOperationException",
    "int method()",
    "int out(int)",
    "int raises(int, int)",
    "int run(int, int, int) throws IndexOutOfBoundsException, IllegalArgumentException,"
        + " IllegalStateException, UnsupportedOperationException",
    "int spent()",
    "int step(int, int, int)",
    "int way(int, int)",
  };

  public static void main(String[] args) throws IOException {
    methodsAreTheFace();
    nothingElseIsSeen();
    innerClassesKeepToTheRules();
    readmeShowsEachCall();
    check.end();
  }

  private static String written(Method m) {
    String line = m.getReturnType() + " " + m.getName() + "(" + joined(m.getParameterTypes()) + ")";
    Class<?>[] thrown = m.getExceptionTypes();
    return thrown.length == 0 ? line : line + " throws " + joined(thrown);
  }

  private static String joined(Class<?>[] types) {
    List<String> names = new ArrayList<>();
    for (Class<?> type : types) {
      names.add(type.getSimpleName());
    }
    return String.join(", ", names);
  }

  private static void methodsAreTheFace() {
    TreeSet<String> seen = new TreeSet<>();
    for (Method m : ThrowFlow.class.getDeclaredMethods()) {
      if (!Modifier.isPrivate(m.getModifiers()) && !m.isSynthetic()) {
        check.yes(m + " is public", Modifier.isPublic(m.getModifiers()));
        check.no(m + " is static", Modifier.isStatic(m.getModifiers()));
        seen.add(written(m));
      }
    }
    check.yes("the methods are " + seen, seen.equals(new TreeSet<>(Arrays.asList(FACE))));
  }

  private static boolean isPrivate(Member member) {
    return Modifier.isPrivate(member.getModifiers());
  }

  private static void nothingElseIsSeen() {
    check.same("modifiers", Modifier.PUBLIC | Modifier.FINAL, ThrowFlow.class.getModifiers());
    for (Field f : ThrowFlow.class.getDeclaredFields()) {
      check.yes(f + " is NONE or private", f.getName().equals("NONE") || isPrivate(f));
      if (Modifier.isStatic(f.getModifiers())) {
        check.yes(f + " is final", Modifier.isFinal(f.getModifiers()));
      }
    }
    Constructor<?>[] made = ThrowFlow.class.getDeclaredConstructors();
    check.same("constructors", 1, made.length);
    check.same("a public constructor", Modifier.PUBLIC, made[0].getModifiers());
    check.same("without parameters", 0, made[0].getParameterCount());
  }

  private static void innerClassesKeepToTheRules() {
    TreeSet<String> names = new TreeSet<>();
    for (Method m : ThrowFlow.class.getDeclaredMethods()) {
      names.add(m.getName());
    }
    Class<?>[] inside = ThrowFlow.class.getDeclaredClasses();
    check.yes("at most twelve classes", inside.length < 12);
    for (Class<?> c : inside) {
      check.yes(c + " is static", Modifier.isStatic(c.getModifiers()));
      check.no(c + " is public", Modifier.isPublic(c.getModifiers()));
      for (Method m : c.getDeclaredMethods()) {
        check.no(m + " bears a public name", names.contains(m.getName()));
        check.yes(m + " takes at most seven", m.getParameterCount() <= 7);
      }
    }
  }

  private static void readmeShowsEachCall() throws IOException {
    String readme = Files.readString(Path.of("README.md"));
    for (Method m : ThrowFlow.class.getMethods()) {
      if (m.getDeclaringClass() == ThrowFlow.class) {
        check.yes("README.md shows " + m.getName(), readme.contains("flow." + m.getName() + "("));
      }
    }
  }
}
