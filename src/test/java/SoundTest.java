import java.lang.reflect.Array;
import java.lang.reflect.Field;
import java.util.List;

/**
 * isSound() answers true in each state that calls can bring about, so here the inside of an object is spoilt by
 * reflection, a part at a time, to see that the part is looked at. Change it with the fields that it names.
 */
public final class SoundTest extends Checks {
  public static void main(String[] args) throws Exception {
    says("Returns whether all of this is so");
    due("a fresh sample", made().isSound(), true);
    neighbours();
    waysOfRanges();
    edgesOfRanges();
    livePrefixes();
    oneRouterAlone();
    fewerLiveThanLeast();
    tooManyPrefixes();
    end();
  }

  private static Routetable made() {
    Routetable x = new Routetable();
    for (int router = 0; router < 4; router++) {
      x.offer(router, 0, 1, 0, 1, 0);
      x.offer(router, 0, 3, 0, 2, 0);
      x.offer(router, -1, 32, 0, 3, 0);
    }
    return x;
  }

  private static Object part(Object of, String... names) throws Exception {
    Object at = of;
    for (String name : names) {
      Field field = at.getClass().getDeclaredField(name);
      field.setAccessible(true);
      at = field.get(at);
    }
    return at;
  }

  private static void setCount(Object of, int count) throws Exception {
    Field field = of.getClass().getDeclaredField("count");
    field.setAccessible(true);
    field.setInt(of, count);
  }

  private static void spoil(Object row, int place, long value) {
    if (row instanceof int[]) {
      Array.setInt(row, place, (int) value);
    } else {
      Array.setLong(row, place, value);
    }
  }

  /** The same spoilt at all routers alike, so that no two of them part. */
  private static void spoilAll(String what, String[] names, int place, long value) throws Exception {
    Routetable x = made();
    for (int router = 0; router < 4; router++) {
      spoil(part(part(x, "net", "router" + router), names), place, value);
    }
    due(what, x.isSound(), false);
  }

  /** Other ranges than those of the live prefixes, told by begin and way in turn. */
  private static void spoilRanges(String what, Routetable x, int router, long... told) throws Exception {
    due(what + ", before", x.isSound(), true);
    Object ranges = part(x, "net", "router" + router, "ranges");
    for (int i = 0; i < told.length / 2; i++) {
      spoil(part(ranges, "begins"), i, told[2 * i]);
      spoil(part(ranges, "ways"), i, told[2 * i + 1]);
    }
    setCount(ranges, told.length / 2);
    due(what, x.isSound(), false);
  }

  private static void neighbours() throws Exception {
    says("neighbouring RANGES have unlike WAYS");
    spoilAll("one way behind another", new String[] {"ranges", "ways"}, 1, 2);
    spoilRanges("a range in two", new Routetable(), 0, 0, NONE, 9, NONE);
    Routetable x = new Routetable();
    x.offer(2, 0, 1, 0, 1, 0);
    spoilRanges("the last range in two", x, 2, 0, 1, 1L << 31, NONE, ALL - 1, NONE);
  }

  private static void waysOfRanges() throws Exception {
    says("for BEGIN and END of each RANGE");
    spoilAll("the first range", new String[] {"ranges", "ways"}, 0, 5);
    spoilAll("the last range", new String[] {"ranges", "ways"}, 3, 5);
  }

  private static void edgesOfRanges() throws Exception {
    about("BEGIN and END of a RANGE");
    spoilAll("a begin too late", new String[] {"ranges", "begins"}, 1, (1L << 29) + 1);
    spoilAll("a begin too early", new String[] {"ranges", "begins"}, 1, (1L << 29) - 1);
  }

  /** 10/8 has the way 1, 5/8, 20/8 and one end of 10/8 have the way 2; more in 20/8, lest the least table be longer. */
  private static Routetable withOneEnd(int end) {
    Routetable x = new Routetable();
    x.offer(0, TEN, 8, 0, 1, 0);
    x.offer(0, end, 32, 0, 2, 0);
    x.offer(0, ip(5, 0, 0, 0), 8, 0, 2, 0);
    for (int length = 8; length <= 12; length++) {
      x.offer(0, TWENTY, length, 0, 2, 0);
    }
    return x;
  }

  private static void livePrefixes() throws Exception {
    says("for the first and last ADDRESS of each LIVE PREFIX, the WAY of the RANGE is that of the longest LIVE PREFIX in "
        + "which it lies (NONE without one)");
    spoilAll("another way", new String[] {"live", "ways"}, 0, 4);
    spoilAll("another length", new String[] {"live", "bits"}, 1, 4);
    Routetable x = new Routetable();
    x.offer(0, TEN, 8, 0, 1, 0);
    spoilRanges("the only prefix has no range", x, 0, 0, NONE);
    long five = 5L << 24;
    long ten = TEN;
    long eleven = 11L << 24;
    long twenty = TWENTY;
    long behind = 21L << 24;
    spoilRanges("but its first address", withOneEnd((int) eleven - 1), 0,
        0, NONE, five, 2, eleven, NONE, twenty, 2, behind, NONE);
    spoilRanges("but its last address", withOneEnd(TEN), 0,
        0, NONE, five, 2, five + (1 << 24), NONE, ten, 2, behind, NONE);
  }

  private static void oneRouterAlone() throws Exception {
    says("ROUTER by ROUTER");
    for (int router = 0; router < 4; router++) {
      Routetable x = made();
      spoil(part(x, "net", "router" + router, "ranges", "ways"), 0, 5);
      due("the router " + router, x.isSound(), false);
      due("its digest", x.digest() == made().digest(), false);
    }
  }

  /** What is told right at all edges, but takes four prefixes: 1 from 0.0.0.1 to 0.0.0.14, 2 around it. */
  private static void fewerLiveThanLeast() throws Exception {
    says("the LEAST TABLE has no more PREFIXES than are LIVE");
    Routetable x = new Routetable();
    x.offer(0, 0, 0, 0, 2, 0);
    x.offer(0, 1, 32, 0, 1, 0);
    x.offer(0, 14, 32, 0, 1, 0);
    spoilRanges("four for three", x, 0, 0, 2, 1, 1, 15, 2);
  }

  @SuppressWarnings("unchecked")
  private static void tooManyPrefixes() throws Exception {
    says("no TABLE has more than 12 PREFIXES");
    Routetable x = new Routetable();
    for (int i = 0; i < 12; i++) {
      x.offer(0, ip(i, 0, 0, 0), 8, 0, i % 6, 0);
    }
    x.offer(1, 0, 0, 0, 1, 0);
    due("twelve", x.isSound(), true);
    List<Object> more = (List<Object>) part(x, "net", "router1", "entries");
    ((List<Object>) part(x, "net", "router0", "entries")).add(more.get(0));
    due("thirteen", x.isSound(), false);
  }
}
