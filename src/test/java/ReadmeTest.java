import java.io.File;
import java.lang.reflect.InvocationTargetException;
import java.lang.reflect.Method;
import java.lang.reflect.Modifier;
import java.nio.file.Files;
import java.nio.file.Path;
import java.util.List;
import java.util.Set;
import java.util.TreeSet;
import java.util.regex.Matcher;
import java.util.regex.Pattern;

/** The calls that README.md shows are made in their order, on one object, and answer what it names behind them. */
public final class ReadmeTest extends Checks {
  private static final Path README = Path.of("README.md");
  private static final Pattern BLOCK = Pattern.compile("```java\n(.*?)```", Pattern.DOTALL);
  private static final Pattern CALL = Pattern.compile("net\\.(\\w+)\\((.*?)\\); +// (.+)");
  private static final Pattern ANSWER = Pattern.compile("(-?\\d+|true|false|\"[^\"]*\"|throws \\w+)(: .+)?");

  private static final Set<String> shown = new TreeSet<>();

  public static void main(String[] args) throws Exception {
    String readme = Files.readString(README);
    about("README.md");
    Routetable net = null;
    Matcher block = BLOCK.matcher(readme);
    while (block.find()) {
      for (String line : block.group(1).split("\n")) {
        if (line.equals("Routetable net = new Routetable();")) {
          net = new Routetable();
        } else if (!line.isEmpty() && !line.startsWith("//")) {
          tryLine(net, line);
        }
      }
    }
    everyCallIsShown();
    everyTestIsNamed(readme);
    end();
  }

  private static void tryLine(Routetable net, String line) throws Exception {
    Matcher call = CALL.matcher(line);
    boolean isCall = call.matches();
    due("a call with its answer: " + line, isCall, true);
    if (isCall) {
      shown.add(call.group(1));
      Matcher want = ANSWER.matcher(call.group(3));
      due("an answer that can be read: " + line, want.matches(), true);
      due(line, answer(net, call.group(1), call.group(2)), want.group(1));
    }
  }

  private static String answer(Routetable net, String name, String told) throws Exception {
    Method method = methodOf(name);
    try {
      Object got = method.invoke(net, arguments(told));
      return method.getReturnType() == String.class ? "\"" + got + "\"" : String.valueOf(got);
    } catch (InvocationTargetException e) {
      return "throws " + e.getCause().getClass().getSimpleName();
    }
  }

  private static Method methodOf(String name) {
    for (Method each : Routetable.class.getDeclaredMethods()) {
      if (each.getName().equals(name) && Modifier.isPublic(each.getModifiers())) {
        return each;
      }
    }
    throw new IllegalStateException("no method " + name);
  }

  private static Object[] arguments(String told) {
    String[] each = told.isEmpty() ? new String[0] : told.split(", ");
    Object[] arguments = new Object[each.length];
    for (int i = 0; i < each.length; i++) {
      boolean isFlag = each[i].equals("true") || each[i].equals("false");
      arguments[i] = isFlag ? (Object) Boolean.valueOf(each[i]) : (Object) Long.decode(each[i]).intValue();
    }
    return arguments;
  }

  private static void everyCallIsShown() {
    for (Method method : Routetable.class.getDeclaredMethods()) {
      if (Modifier.isPublic(method.getModifiers())) {
        due("a call of " + method.getName() + " is shown", shown.contains(method.getName()), true);
      }
    }
  }

  private static void everyTestIsNamed(String readme) {
    for (String name : List.of(new File("src/test/java").list())) {
      String test = name.replace(".java", "");
      due(test + " is named", readme.contains("`" + test + "`"), true);
    }
  }
}
