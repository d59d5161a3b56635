import java.lang.reflect.Array;
import java.lang.reflect.Field;

/**
 * isSound() answers true in each state that calls can bring about, so here the inside of an object is spoilt by
 * reflection, a part at a time, to see that the part is looked at. Change it with the fields that it names.
 */
public final class SoundTest {
  private static int checks = 0;
  private static int wrong = 0;

  public static void main(String[] args) throws Exception {
    due("a fresh sample", made(), true);
    neighbours();
    waysOfRanges();
    edgesOfRanges();
    livePrefixes();
    fewerLiveThanLeast();
    System.out.println(checks + " checks, " + wrong + " wrong");
    if (wrong > 0) {
      System.exit(1);
    }
  }

  private static void due(String what, Routetable x, boolean want) {
    checks++;
    if (x.isSound() != want) {
      wrong++;
      System.out.println(what + ": isSound() answered " + !want);
    }
  }

  private static Routetable made() {
    Routetable x = new Routetable();
    for (int router = 0; router < 4; router++) {
      x.offer(router, 0, 1, 0, 1, 0);
      x.offer(router, 0, 3, 0, 2, 0);
      x.offer(router, -1, 32, 0, 3, 0);
    }
    return x;
  }

  private static Object part(Object of, String... names) throws Exception {
    Object at = of;
    for (String name : names) {
      Field field = at.getClass().getDeclaredField(name);
      field.setAccessible(true);
      at = field.get(at);
    }
    return at;
  }

  private static void setCount(Object of, int count) throws Exception {
    Field field = of.getClass().getDeclaredField("count");
    field.setAccessible(true);
    field.setInt(of, count);
  }

  /** The same spoilt at all routers alike, so that no two of them part. */
  private static void spoilAll(String what, String[] names, int place, long value) throws Exception {
    Routetable x = made();
    for (int router = 0; router < 4; router++) {
      spoil(part(part(x, "net", "router" + router), names), place, value);
    }
    due(what, x, false);
  }

  private static void spoil(Object row, int place, long value) {
    if (row instanceof int[]) {
      Array.setInt(row, place, (int) value);
    } else {
      Array.setLong(row, place, value);
    }
  }

  private static void neighbours() throws Exception {
    spoilAll("neighbours of one way", new String[] {"ranges", "ways"}, 1, 2);
  }

  private static void waysOfRanges() throws Exception {
    spoilAll("the first range", new String[] {"ranges", "ways"}, 0, 5);
    spoilAll("the last range", new String[] {"ranges", "ways"}, 3, 5);
    Routetable x = made();
    spoil(part(x, "net", "router3", "ranges", "ways"), 0, 5);
    due("the last router alone", x, false);
  }

  private static void edgesOfRanges() throws Exception {
    spoilAll("a begin too late", new String[] {"ranges", "begins"}, 1, (1L << 29) + 1);
    spoilAll("a begin too early", new String[] {"ranges", "begins"}, 1, (1L << 29) - 1);
  }

  private static void livePrefixes() throws Exception {
    spoilAll("another way", new String[] {"live", "ways"}, 0, 4);
    spoilAll("another length", new String[] {"live", "bits"}, 1, 4);
  }

  private static void fewerLiveThanLeast() throws Exception {
    Routetable x = made();
    for (int router = 0; router < 4; router++) {
      setCount(part(x, "net", "router" + router, "live"), 2);
    }
    due("fewer live prefixes", x, false);
  }
}
