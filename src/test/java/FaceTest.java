import java.lang.reflect.Constructor;
import java.lang.reflect.Field;
import java.lang.reflect.Method;
import java.lang.reflect.Modifier;
import java.util.Set;
import java.util.TreeSet;

// The public face of the document and nothing beside it, and what LANGUAGE.md asks of the members.
public final class FaceTest {
  private static final Checks checks = new Checks();

  public static void main(String[] args) {
    Class<?> face = WildcardMatcher.class;
    checks.due("the class is public", Modifier.isPublic(face.getModifiers()), true);
    checks.due("the class is final", Modifier.isFinal(face.getModifiers()), true);
    checks.due("the class has no package", face.getPackageName().isEmpty(), true);
    checks.due("the class extends Object alone", face.getSuperclass() == Object.class, true);
    checks.due("interfaces", face.getInterfaces().length, 0);
    checks.due("nested classes", face.getDeclaredClasses().length, 0);
    checks.due("FULL", WildcardMatcher.FULL, -1);
    checks.due("BAD", WildcardMatcher.BAD, -2);
    checks.due("NONE", WildcardMatcher.NONE, -3);
    constructors(face);
    methods(face);
    fields(face);
    checks.finish();
  }

  private static void constructors(Class<?> face) {
    Constructor<?>[] all = face.getDeclaredConstructors();
    checks.due("constructors", all.length, 1);
    checks.due("the constructor is public", Modifier.isPublic(all[0].getModifiers()), true);
    checks.due("parameters of the constructor", all[0].getParameterCount(), 0);
  }

  private static void methods(Class<?> face) {
    Set<String> want = new TreeSet<>(Set.of("int type(boolean, int)", "boolean replace(boolean, int, int)",
        "int shorten(boolean)", "int letter(boolean, int)", "int length(boolean)", "boolean matches(int)",
        "int matchCount()", "int nextMatch(int)", "int mismatches(int)", "int bestShift()", "int within(int)",
        "int turnedMismatches(int)"));
    Set<String> got = new TreeSet<>();
    Set<String> publicNames = new TreeSet<>();
    for (Method method : face.getDeclaredMethods()) {
      if (!Modifier.isPrivate(method.getModifiers())) {
        got.add(Checks.told(method));
        publicNames.add(method.getName());
        checks.due(method + " is public", Modifier.isPublic(method.getModifiers()), true);
        checks.due(method + " is static", Modifier.isStatic(method.getModifiers()), false);
      }
    }
    checks.due("the methods are " + got + ", due " + want, got.equals(want), true);
    for (Method method : face.getDeclaredMethods()) {
      boolean clash = Modifier.isPrivate(method.getModifiers()) && publicNames.contains(method.getName());
      checks.due(method + " bears a public name", clash, false);
    }
  }

  private static void fields(Class<?> face) {
    Set<String> constants = Set.of("FULL", "BAD", "NONE");
    Set<String> seen = new TreeSet<>();
    for (Field field : face.getDeclaredFields()) {
      int modifiers = field.getModifiers();
      boolean named = constants.contains(field.getName());
      if (named) {
        seen.add(field.getName());
        checks.due(field + " is a static final int", Modifier.isStatic(modifiers) && Modifier.isFinal(modifiers)
            && field.getType() == int.class, true);
      }
      checks.due(field + " is public", Modifier.isPublic(modifiers), named);
      checks.due(field + " is private", Modifier.isPrivate(modifiers), !named);
      if (Modifier.isStatic(modifiers)) {
        boolean number = field.getType() == int.class || field.getType() == long.class;
        checks.due(field + " is a constant number", number && Modifier.isFinal(modifiers), true);
      } else {
        Class<?> part = field.getType().isArray() ? field.getType().getComponentType() : field.getType();
        checks.due(field + " is of numbers", part.isPrimitive() && part != float.class && part != double.class, true);
      }
    }
    checks.due("the constants", seen.equals(constants), true);
  }
}
