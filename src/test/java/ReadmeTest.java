import java.io.IOException;
import java.lang.reflect.Method;
import java.lang.reflect.Modifier;
import java.nio.file.Files;
import java.nio.file.Path;
import java.util.regex.Matcher;
import java.util.regex.Pattern;

/** README.md: its example answers as it says there, and its table has every call of the class. */
public final class ReadmeTest {
  private static final Due D = new Due();
  private static final Pattern TEXT = Pattern.compile("for \\(char c : \"(\\w+)\"\\.toCharArray.*");
  private static final Pattern CALL = Pattern.compile("x\\.(\\w+)\\(([^)]*)\\); +// (-?\\d+): .*");

  public static void main(String[] args) throws ReflectiveOperationException, IOException {
    String readme = Files.readString(Path.of("README.md"));
    int start = readme.indexOf("```java\n");
    int end = start < 0 ? -1 : readme.indexOf("\n```", start);
    D.due("there is an example", end > start ? 1 : 0, 1);
    if (end > start) example(readme.substring(start + 8, end).split("\n"));
    for (Method m : CardHouse.class.getDeclaredMethods()) {
      if (!Modifier.isPublic(m.getModifiers())) continue;
      D.due("the table has " + m.getName(), row(m).matcher(readme).find() ? 1 : 0, 1);
    }
    D.end();
  }

  private static void example(String[] lines) throws ReflectiveOperationException {
    D.due("it begins with a new object", lines[0].equals("CardHouse x = new CardHouse();") ? 1 : 0, 1);
    CardHouse x = new CardHouse();
    for (int i = 1; i < lines.length; i++) {
      Matcher text = TEXT.matcher(lines[i]);
      Matcher call = CALL.matcher(lines[i]);
      if (text.matches()) Due.tell(x, text.group(1));
      else if (call.matches()) D.due(lines[i], answer(x, call), Long.parseLong(call.group(3)));
      else D.due("a line that can be read: " + lines[i], 0, 1);
    }
  }

  private static long answer(CardHouse x, Matcher call) throws ReflectiveOperationException {
    String[] told = call.group(2).isEmpty() ? new String[0] : call.group(2).split(", ");
    for (Method m : CardHouse.class.getDeclaredMethods()) {
      if (!m.getName().equals(call.group(1))) continue;
      Object[] values = new Object[told.length];
      for (int i = 0; i < told.length; i++) values[i] = value(told[i], m.getParameterTypes()[i]);
      return ((Number) m.invoke(x, values)).longValue();
    }
    throw new NoSuchMethodException(call.group());
  }

  private static Object value(String told, Class<?> type) {
    if (type == boolean.class) return Boolean.valueOf(told);
    if (type == long.class) return Long.valueOf(told.replace("L", ""));
    return Integer.valueOf(told);
  }

  /** A call of this name in the table, with as many arguments as it has. */
  private static Pattern row(Method m) {
    int n = m.getParameterCount();
    String arguments = n == 0 ? "" : "\\w+(, \\w+){" + (n - 1) + "}";
    return Pattern.compile("(?m)^\\|.*`" + m.getName() + "\\(" + arguments + "\\)` \\d+");
  }
}
