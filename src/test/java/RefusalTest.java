import java.lang.reflect.InvocationTargetException;
import java.lang.reflect.Method;
import java.util.ArrayList;
import java.util.List;
import java.util.Map;
import java.util.regex.Matcher;
import java.util.regex.Pattern;

/**
 * Each "Throws" row of the document, read from there: the bounds that it names are taken, what lies just outside them
 * and far outside is refused, of two refusals the one that is named first comes, and none changes anything.
 */
public final class RefusalTest extends Checks {
  /** Arguments that no method refuses, by the names that the document gives them. */
  private static final Map<String, Integer> FINE = Map.ofEntries(Map.entry("router", 0), Map.entry("address", TEN),
      Map.entry("length", 8), Map.entry("owner", 0), Map.entry("way", 2), Map.entry("cost", 5), Map.entry("from", 3),
      Map.entry("to", 4), Map.entry("life", 3), Map.entry("asked", TEN), Map.entry("what", 1), Map.entry("number", 0),
      Map.entry("other", 1), Map.entry("fate", 1), Map.entry("place", 1), Map.entry("isDown", 1), Map.entry("isLast", 1));
  private static final int[] ADDRESSES = {0, TEN, ip(10, 64, 0, 0), TWENTY, ip(30, 0, 0, 0), -1};
  private static final int[] LENGTHS = {0, 8, 10, 32};
  private static final int SAMPLE_RANGES = 8;
  private static final int ROWS = 56;

  /** What a row says of one argument; least and most are taken. */
  record Bound(String name, int least, int most, String exception) {
    boolean has(int number) {
      return number >= least && number <= most;
    }
  }

  private static int rows = 0;

  public static void main(String[] args) throws Exception {
    says("A method that throws an exception changes nothing. If several exceptions apply, the one that is named first is "
        + "thrown.");
    String[] promises = document().split("\n## Promise ");
    for (int i = 2; i < promises.length; i++) {
      promise(promises[i].split("\n## ")[0]);
    }
    about("all rows");
    due("how many", rows, ROWS);
    fullTable();
    fromAboveTo();
    end();
  }

  // ---- reading the document

  private static void promise(String text) throws Exception {
    Method method = methodOf(text.substring(text.indexOf(": ") + 2, text.indexOf('\n')));
    Matcher signature = Pattern.compile("`\\w+ \\w+\\((.*?)\\)").matcher(text);
    due("a signature in promise " + text, signature.find(), true);
    List<String> names = new ArrayList<>();
    for (String told : signature.group(1).isEmpty() ? new String[0] : signature.group(1).split(", ")) {
      names.add(told.split(" ")[1]);
    }
    List<Bound> bounds = new ArrayList<>();
    Matcher row = Pattern.compile("\nThrows `(\\w+)` if (.*)").matcher(text);
    while (row.find()) {
      rows++;
      about(method.getName() + ": throws " + row.group(1) + " if " + row.group(2));
      addBounds(bounds, row.group(1), row.group(2));
    }
    eachBound(method, names, bounds);
    firstOfTwo(method, names, bounds);
  }

  private static Method methodOf(String name) {
    for (Method each : Routetable.class.getDeclaredMethods()) {
      if (each.getName().equals(name)) {
        return each;
      }
    }
    throw new IllegalStateException("no method " + name);
  }

  private static void addBounds(List<Bound> bounds, String exception, String text) {
    Matcher piece = Pattern.compile("(?:, or |, |^)(\\w+)(?: or (\\w+))?(?: is)? not (-?\\d+) to (-?\\d+)").matcher(text);
    while (piece.find()) {
      for (int group = 1; group <= 2; group++) {
        if (piece.group(group) != null) {
          bounds.add(new Bound(piece.group(group), Integer.parseInt(piece.group(3)), Integer.parseInt(piece.group(4)),
              exception));
        }
      }
    }
    switch (piece.reset().replaceAll("")) {
      case ", or there is no such RANGE":
        bounds.add(new Bound("number", 0, SAMPLE_RANGES - 1, exception));
        break;
      case "from is above 32":
        bounds.add(new Bound("from", LOWEST, 32, exception));
        break;
      // These two have tests of their own.
      case "the PREFIX is not in the TABLE, and there are 12":
      case "the NUMBER of from is greater than that of to":
      case "":
        break;
      default:
        due("the whole row is understood", text, "");
    }
  }

  // ---- trying it

  private static Routetable busy() {
    Routetable x = sample();
    x.offer(0, TWENTY, 8, 0, 4, 0);
    x.offer(0, TWENTY, 8, 1, 5, 1);
    flap(x, 0, TEN, 8, 2, 2);
    flap(x, 1, ip(30, 0, 0, 0), 8, 1, 1);
    x.offer(1, 0, 0, 3, 0, 99);
    x.link(0, 3, 1);
    x.link(1, 0, 4);
    x.send(0, TEN, 9);
    x.send(3, TEN, 9);
    x.knock();
    return x;
  }

  private static Object[] fine(Method method, List<String> names) {
    Object[] told = new Object[names.size()];
    for (int i = 0; i < told.length; i++) {
      boolean isFlag = method.getParameterTypes()[i] == boolean.class;
      told[i] = isFlag ? (Object) true : (Object) FINE.get(names.get(i));
    }
    return told;
  }

  private static String call(Routetable x, Method method, Object[] told) throws IllegalAccessException {
    try {
      method.invoke(x, told);
      return "nothing";
    } catch (InvocationTargetException e) {
      return e.getCause().getClass().getSimpleName();
    }
  }

  private static void check(Method method, Object[] told, String want) throws Exception {
    Routetable x = busy();
    String before = picture(x, ADDRESSES, LENGTHS);
    about(method.getName() + List.of(told));
    due("the call throws", call(x, method, told), want);
    if (!want.equals("nothing")) {
      due("nothing is changed", picture(x, ADDRESSES, LENGTHS), before);
    }
  }

  private static void eachBound(Method method, List<String> names, List<Bound> bounds) throws Exception {
    check(method, fine(method, names), "nothing");
    for (Bound bound : bounds) {
      int[] edges = {bound.least, bound.most, bound.least - 1, bound.most + 1, LOWEST, HIGHEST};
      for (int edge : edges) {
        Object[] told = fine(method, names);
        told[names.indexOf(bound.name)] = edge;
        check(method, told, bound.has(edge) ? "nothing" : bound.exception);
      }
    }
  }

  /** "If several exceptions apply, the one that is named first is thrown." */
  private static void firstOfTwo(Method method, List<String> names, List<Bound> bounds) throws Exception {
    for (int first = 0; first < bounds.size(); first++) {
      for (int second = first + 1; second < bounds.size(); second++) {
        Object[] told = fine(method, names);
        told[names.indexOf(bounds.get(first).name)] = bounds.get(first).most + 1;
        told[names.indexOf(bounds.get(second).name)] = bounds.get(second).most + 1;
        check(method, told, bounds.get(first).exception);
      }
    }
  }

  // ---- the rows that name no bounds

  private static void fullTable() {
    says("Throws `IllegalStateException` if the PREFIX is not in the TABLE, and there are 12");
    Routetable x = new Routetable();
    for (int i = 0; i < 11; i++) {
      x.offer(3, ip(i, 0, 0, 0), 8, 0, 1, 1);
    }
    due("the twelfth", x.offer(3, ip(11, 0, 0, 0), 8, 0, 1, 1), 1);
    state(x, "the thirteenth", () -> x.offer(3, ip(12, 0, 0, 0), 8, 0, 1, 1));
    state(x, "the same address, another length", () -> x.offer(3, ip(11, 0, 0, 0), 9, 0, 1, 1));
    due("a prefix in the table", x.offer(3, ip(11, 0, 0, 0), 8, 1, 1, 1), 2);
    due("an offer in the table", x.offer(3, ip(11, 0, 0, 0), 8, 1, 2, 2), 2);
    due("another router", x.offer(2, ip(12, 0, 0, 0), 8, 0, 1, 1), 1);
    index(x, "a wrong router", () -> x.offer(4, ip(12, 0, 0, 0), 8, 0, 1, 1));
    index(x, "a wrong owner", () -> x.offer(3, ip(12, 0, 0, 0), 8, -1, 1, 1));
    argument(x, "a wrong length", () -> x.offer(3, ip(12, 0, 0, 0), -1, 0, 1, 1));
    argument(x, "a wrong way", () -> x.offer(3, ip(12, 0, 0, 0), 8, 0, -2, 1));
    argument(x, "a wrong cost", () -> x.offer(3, ip(12, 0, 0, 0), 8, 0, 1, -1));
    flap(x, 3, ip(10, 0, 0, 0), 8, 0, 2);
    x.offer(3, ip(10, 0, 0, 0), 8, 0, 1, 1);
    due("one is damped", x.table(3, 1), 11);
    state(x, "a damped one counts among the twelve", () -> x.offer(3, ip(12, 0, 0, 0), 8, 0, 1, 1));
    x.withdraw(3, ip(10, 0, 0, 0), 8, 0);
    due("eleven again", x.offer(3, ip(12, 0, 0, 0), 8, 0, 1, 1), 1);
    state(x, "one that was there and has a penalty", () -> x.offer(3, ip(10, 0, 0, 0), 8, 0, 1, 1));
  }

  private static void fromAboveTo() {
    says("Throws `IllegalArgumentException` if the NUMBER of from is greater than that of to");
    Routetable x = busy();
    due("the same", x.edge(0, TEN, TEN, true), (long) TEN);
    argument(x, "one above", () -> x.edge(0, TEN + 1, TEN, true));
    argument(x, "one above", () -> x.edge(0, TEN + 1, TEN, false));
    argument(x, "the last and the first", () -> x.edge(0, -1, 0, false));
    argument(x, "numbers have no sign", () -> x.edge(0, LOWEST, HIGHEST, false));
    due("numbers have no sign", x.edge(0, HIGHEST, LOWEST, false), -1L);
    index(x, "a wrong router", () -> x.edge(4, -1, 0, false));
  }
}
