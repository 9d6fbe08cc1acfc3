import java.io.IOException;
import java.lang.reflect.Field;
import java.lang.reflect.Method;
import java.lang.reflect.Modifier;
import java.nio.file.Files;
import java.nio.file.Path;
import java.util.Set;
import java.util.TreeSet;
import java.util.regex.Matcher;
import java.util.regex.Pattern;

// README.md tells every call and every constant, and the calls of its example answer what stands behind them.
public final class ReadmeTest {
  private static final Pattern EXAMPLE = Pattern.compile("x\\.(\\w+)\\(([^)]*)\\); +// ([^:]+)(:.*)?");
  private static final Pattern CALL_ROW = Pattern.compile("\\| `(\\w+ \\w+\\([^)]*\\))` \\|.*");
  private static final Pattern CONSTANT_ROW = Pattern.compile("\\| `(\\w+)` \\| (-?\\d+) \\|.*");
  private static final Checks checks = new Checks();

  private final WildcardMatcher x = new WildcardMatcher();
  private final Set<String> toldCalls = new TreeSet<>();
  private final Set<String> toldConstants = new TreeSet<>();
  private final Set<String> shownCalls = new TreeSet<>();

  public static void main(String[] args) throws IOException, ReflectiveOperationException {
    ReadmeTest test = new ReadmeTest();
    for (String line : Files.readAllLines(Path.of("README.md"))) {
      test.read(line);
    }
    test.everythingIsTold();
    checks.finish();
  }

  private void read(String line) throws ReflectiveOperationException {
    Matcher example = EXAMPLE.matcher(line);
    Matcher callRow = CALL_ROW.matcher(line);
    Matcher constantRow = CONSTANT_ROW.matcher(line);
    checks.due("is an example with its answer: " + line, example.matches(), line.startsWith("x."));
    if (example.matches()) {
      shownCalls.add(example.group(1));
      checks.due(line, answer(example.group(1), example.group(2)), number(example.group(3)));
    } else if (callRow.matches()) {
      toldCalls.add(callRow.group(1).replaceAll("(boolean|int) \\w+(?=[,)])", "$1"));
    } else if (constantRow.matches()) {
      toldConstants.add(constantRow.group(1));
      checks.due(line, Long.parseLong(constantRow.group(2)), number(constantRow.group(1)));
    }
  }

  private long answer(String name, String arguments) throws ReflectiveOperationException {
    String[] words = arguments.isEmpty() ? new String[0] : arguments.split(", ");
    Object[] values = new Object[words.length];
    for (int i = 0; i < words.length; i++) {
      boolean truth = words[i].equals("true") || words[i].equals("false");
      values[i] = truth ? (Object) Boolean.valueOf(words[i]) : (Object) Integer.valueOf(words[i]);
    }
    return number(callNamed(name).invoke(x, values).toString());
  }

  private static Method callNamed(String name) throws NoSuchMethodException {
    for (Method method : WildcardMatcher.class.getDeclaredMethods()) {
      if (Modifier.isPublic(method.getModifiers()) && method.getName().equals(name)) {
        return method;
      }
    }
    throw new NoSuchMethodException(name);
  }

  private static long number(String answer) throws ReflectiveOperationException {
    if (answer.equals("true") || answer.equals("false")) {
      return answer.equals("true") ? 1 : 0;
    }
    boolean named = Character.isLetter(answer.charAt(0));
    return named ? WildcardMatcher.class.getField(answer).getInt(null) : Long.parseLong(answer);
  }

  private void everythingIsTold() {
    Set<String> calls = new TreeSet<>();
    Set<String> names = new TreeSet<>();
    for (Method method : WildcardMatcher.class.getDeclaredMethods()) {
      if (Modifier.isPublic(method.getModifiers())) {
        calls.add(Checks.told(method));
        names.add(method.getName());
      }
    }
    Set<String> constants = new TreeSet<>();
    for (Field field : WildcardMatcher.class.getFields()) {
      constants.add(field.getName());
    }
    checks.due("told are " + toldCalls + ", due " + calls, toldCalls.equals(calls), true);
    checks.due("told are " + toldConstants + ", due " + constants, toldConstants.equals(constants), true);
    checks.due("shown are " + shownCalls + ", due " + names, shownCalls.equals(names), true);
  }
}
