/** The document's sentences on ranges (part 3) and on two tables: promises 24 to 29 and 32 to 34. */
public final class RangesTest extends Checks {
  public static void main(String[] args) {
    oneAtFirst();
    asLongAsCanBe();
    lastAndFirst();
    nothingAndAHole();
    numbered();
    mostRanges();
    beginAndEnd();
    noSuchRange();
    whatOfARange();
    rangesText();
    beginsInAWindow();
    refusedWindow();
    edges();
    noEdge();
    shares();
    alike();
    parting();
    differ();
    end();
  }

  private static void oneAtFirst() {
    says("(\"0.0.0.0>-1\" at first)");
    Routetable x = new Routetable();
    for (int router = 0; router < 4; router++) {
      due("ranges", x.ranges(router), 1);
      due("rangesText", x.rangesText(router), "0.0.0.0>-1");
      due("all addresses", x.range(router, 0, 3), 4294967296L);
    }
  }

  private static void asLongAsCanBe() {
    says("A RANGE of a ROUTER is a row of neighbouring ADDRESSES of one WAY (also of NONE), as long as can be");
    Routetable x = new Routetable();
    x.offer(0, TEN, 8, 0, 1, 0);
    due("one prefix", x.ranges(0), 3);
    x.offer(0, ip(11, 0, 0, 0), 8, 0, 1, 0);
    due("a neighbour of its way", x.rangesText(0), "0.0.0.0>-1 10.0.0.0>1 12.0.0.0>-1");
    x.offer(0, TEN, 16, 0, 1, 0);
    due("one in it of its way", x.ranges(0), 3);
    x.offer(0, ip(12, 0, 0, 0), 8, 0, 2, 0);
    due("a neighbour of another way", x.ranges(0), 4);
    x.offer(0, ip(10, 255, 255, 255), 32, 0, 2, 0);
    due("one address of another way", x.rangesText(0),
        "0.0.0.0>-1 10.0.0.0>1 10.255.255.255>2 11.0.0.0>1 12.0.0.0>2 13.0.0.0>-1");
    for (int i = 0; i < 4; i++) {
      x.offer(1, i << 30, 2, 0, 3, 0);
    }
    due("four quarters are one", x.rangesText(1), "0.0.0.0>3");
  }

  private static void lastAndFirst() {
    says("(the last ADDRESS and the first one are no neighbours");
    Routetable x = new Routetable();
    x.offer(0, 0, 32, 0, 1, 0);
    x.offer(0, -1, 32, 0, 1, 0);
    due("three", x.rangesText(0), "0.0.0.0>1 0.0.0.1>-1 255.255.255.255>1");
    due("the first", x.range(0, 0, 3), 1L);
    due("the last", x.range(0, 2, 3), 1L);
  }

  private static void nothingAndAHole() {
    says("no PREFIX and a HOLE are the one WAY NONE)");
    Routetable x = new Routetable();
    x.offer(0, TEN, 8, 0, NONE, 0);
    due("a hole in nothing", x.rangesText(0), "0.0.0.0>-1");
    x.offer(0, ip(11, 0, 0, 0), 8, 0, 1, 0);
    due("nothing and a hole before a way", x.rangesText(0), "0.0.0.0>-1 11.0.0.0>1 12.0.0.0>-1");
    x.offer(0, ip(11, 0, 0, 0), 9, 0, NONE, 0);
    due("a hole at its begin", x.rangesText(0), "0.0.0.0>-1 11.128.0.0>1 12.0.0.0>-1");
    due("share", x.share(0, NONE), ALL - (1L << 23));
    due("alike", x.alike(1, 2), true);
    x.offer(1, 0, 0, 0, NONE, 0);
    due("alike with a hole for all", x.alike(1, 2), true);
  }

  private static void numbered() {
    says("They are numbered from 0 by rising ADDRESSES.");
    Routetable x = sample();
    long behind = 0;
    for (int number = 0; number < x.ranges(0); number++) {
      due("begin of " + number, x.range(0, number, 0), behind);
      behind = x.range(0, number, 1) + 1;
    }
    due("end of the last", behind, ALL);
    due("the third", x.range(0, 2, 0), 171966464L);
  }

  private static void mostRanges() {
    says("each ADDRESS is in one.");
    Routetable x = new Routetable();
    for (int i = 0; i < 12; i++) {
      x.offer(0, i * 16 + 8, 32, 0, i % 6, 0);
    }
    due("twelve apart", x.ranges(0), 25);
    for (int i = 0; i < 12; i++) {
      x.offer(1, TEN, 8 + 2 * i, 0, i % 6, 0);
    }
    due("twelve in one another, at one begin", x.ranges(1), 14);
    for (int i = 0; i < 12; i++) {
      x.offer(2, ip(85, 85, 85, 85), 3 + 2 * i, 0, i % 6, 0);
    }
    due("twelve in one another", x.ranges(2), 25);
    for (int i = 0; i < 12; i++) {
      x.offer(3, i, 32, 0, i % 6, 0);
    }
    due("twelve side by side from 0 on", x.ranges(3), 13);
    for (int router = 0; router < 4; router++) {
      long sum = 0;
      long shares = 0;
      for (int number = 0; number < x.ranges(router); number++) {
        sum += x.range(router, number, 3);
        due("begin to end", x.range(router, number, 1) - x.range(router, number, 0) + 1, x.range(router, number, 3));
      }
      for (int way = NONE; way <= 5; way++) {
        shares += x.share(router, way);
      }
      due("all addresses", sum, ALL);
      due("all shares", shares, ALL);
      due("sound", x.isSound(), true);
    }
  }

  private static void beginAndEnd() {
    says("BEGIN and END of a RANGE are its first and last ADDRESS.");
    Routetable x = new Routetable();
    x.offer(0, TEN, 8, 0, 1, 0);
    long[] begins = {0, 167772160, 184549376};
    long[] ends = {167772159, 184549375, 4294967295L};
    for (int number = 0; number < 3; number++) {
      due("begin", x.range(0, number, 0), begins[number]);
      due("end", x.range(0, number, 1), ends[number]);
      due("way at begin", x.way(0, (int) begins[number]), number == 1 ? 1 : NONE);
      due("way at end", x.way(0, (int) ends[number]), number == 1 ? 1 : NONE);
    }
  }

  private static void noSuchRange() {
    says("Throws `IndexOutOfBoundsException` if router is not 0 to 3, or there is no such RANGE");
    Routetable x = new Routetable();
    index(x, "1 of 1", () -> x.range(0, 1, 0));
    index(x, "-1", () -> x.range(0, -1, 0));
    x.offer(0, -1, 32, 0, 1, 0);
    due("1 of 2", x.range(0, 1, 0), ALL - 1);
    index(x, "2 of 2", () -> x.range(0, 2, 0));
    index(x, "before what", () -> x.range(0, 2, 4));
    for (int i = 0; i < 12; i++) {
      x.offer(1, i * 16 + 8, 32, 0, i % 6, 0);
    }
    due("24 of 25", x.range(1, 24, 1), ALL - 1);
    index(x, "25 of 25", () -> x.range(1, 25, 1));
    index(x, "the lowest", () -> x.range(1, LOWEST, 1));
    index(x, "the highest", () -> x.range(1, HIGHEST, 1));
  }

  private static void whatOfARange() {
    says("0 the NUMBER of BEGIN, 1 that of END, 2 its WAY, 3 how many ADDRESSES are in it");
    Routetable x = new Routetable();
    x.offer(0, -1, 31, 0, 5, 0);
    long[] wants = {4294967294L, 4294967295L, 5, 2};
    for (int what = 0; what <= 3; what++) {
      due("what " + what, x.range(0, 1, what), wants[what]);
    }
    due("the way none", x.range(0, 0, 2), -1L);
  }

  private static void rangesText() {
    says("Returns RANGE by RANGE the text of BEGIN, \">\" and its WAY, with a blank between two");
    Routetable x = new Routetable();
    x.offer(0, 0, 1, 0, 0, 0);
    due("two", x.rangesText(0), "0.0.0.0>0 128.0.0.0>-1");
    x.offer(0, -1, 1, 0, 0, 0);
    due("one", x.rangesText(0), "0.0.0.0>0");
    x.offer(0, -1, 32, 0, 5, 0);
    due("the last address", x.rangesText(0), "0.0.0.0>0 255.255.255.255>5");
  }

  /** Begins at 0, 10.0.0.0, 10.64.0.0, 10.64.0.1, 10.128.0.0 and 11.0.0.0. */
  private static void beginsInAWindow() {
    says("Returns how many BEGINS lie from the first to the second ADDRESS (both count)");
    Routetable x = sample();
    due("all", x.window(0, 0, -1), 6);
    due("from a begin to a begin", x.window(0, TEN, ip(10, 64, 0, 1)), 3);
    due("from behind a begin", x.window(0, TEN + 1, ip(10, 64, 0, 1)), 2);
    due("to before a begin", x.window(0, TEN, ip(10, 64, 0, 0)), 2);
    due("just a begin", x.window(0, TEN, TEN), 1);
    due("just before it", x.window(0, TEN - 1, TEN - 1), 0);
    due("just behind it", x.window(0, TEN + 1, TEN + 1), 0);
    due("an end is no begin", x.window(0, -1, -1), 0);
    due("0 is a begin", x.window(1, 0, 0), 1);
    due("1 is not", x.window(1, 1, -1), 0);
  }

  private static void refusedWindow() {
    says("REFUSED, if the NUMBER of from is greater than that of to.");
    Routetable x = sample();
    due("one greater", x.window(0, 1, 0), REFUSED);
    due("the same", x.window(0, 0, 0), 1);
    due("the last and the first", x.window(0, -1, 0), REFUSED);
    due("the first and the last", x.window(0, 0, -1), 6);
    due("numbers have no sign", x.window(0, LOWEST, HIGHEST), REFUSED);
    due("numbers have no sign", x.window(0, HIGHEST, LOWEST), 0);
  }

  private static void edges() {
    says("Returns the NUMBER of the last, or the first, BEGIN from the first to the second ADDRESS (both count)");
    Routetable x = sample();
    x.offer(0, -1, 32, 0, 5, 0);
    due("the first of all", x.edge(0, 0, -1, false), 0L);
    due("the last of all", x.edge(0, 0, -1, true), 4294967295L);
    due("the first from a begin", x.edge(0, TEN, -1, false), 167772160L);
    due("the first from behind it", x.edge(0, TEN + 1, -1, false), 171966464L);
    due("the last to a begin", x.edge(0, 0, ip(10, 64, 0, 1), true), 171966465L);
    due("the last to before it", x.edge(0, 0, ip(10, 64, 0, 0), true), 171966464L);
    due("the only one is the first", x.edge(0, TEN, TEN + 9, false), 167772160L);
    due("and the last", x.edge(0, TEN, TEN + 9, true), 167772160L);
    due("one address", x.edge(0, -1, -1, false), 4294967295L);
  }

  private static void noEdge() {
    says("NONE, if none lies there.");
    Routetable x = sample();
    due("no last", x.edge(0, 1, 9, true), -1L);
    due("no first", x.edge(0, 1, 9, false), -1L);
    due("behind the last one", x.edge(0, ip(11, 0, 0, 1), -1, true), -1L);
    due("one address", x.edge(0, TEN + 1, TEN + 1, false), -1L);
  }

  private static void shares() {
    says("Returns how many ADDRESSES have it.");
    Routetable x = new Routetable();
    due("all have none", x.share(0, NONE), 4294967296L);
    due("none has 0", x.share(0, 0), 0L);
    x.offer(0, 0, 0, 0, 5, 0);
    due("all have 5", x.share(0, 5), 4294967296L);
    due("none has none", x.share(0, NONE), 0L);
    x.offer(0, 0, 32, 0, 0, 0);
    x.offer(0, -1, 32, 0, 0, 0);
    due("two ranges of one way", x.share(0, 0), 2L);
    due("but two", x.share(0, 5), 4294967294L);
    x.offer(0, TEN, 31, 0, NONE, 0);
    due("a hole", x.share(0, NONE), 2L);
  }

  private static void alike() {
    says("Returns whether each ADDRESS has the same WAY at both.");
    Routetable x = sample();
    due("the same", x.alike(0, 0), true);
    due("two empty ones", x.alike(1, 2), true);
    due("one is empty", x.alike(0, 1), false);
    due("the other way round", x.alike(1, 0), false);
    x.offer(1, 0, 0, 3, 4, 9);
    x.offer(2, 0, 0, 0, 4, 1);
    due("the same prefix by other owners", x.alike(1, 2), true);
    x.offer(2, 0, 32, 0, 5, 1);
    due("but the first address", x.alike(1, 2), false);
    x.offer(2, 0, 32, 0, 4, 1);
    x.offer(2, -1, 32, 0, 5, 1);
    due("but the last address", x.alike(1, 2), false);
    x.offer(1, -1, 32, 0, 5, 1);
    due("as many ranges, as many ways", x.alike(1, 2), true);
    x.offer(1, -1, 31, 0, 5, 1);
    due("a begin that is one off", x.alike(1, 2), false);
  }

  private static void parting() {
    says("Returns the NUMBER of the first ADDRESS that has not the same WAY at both, or NONE.");
    Routetable x = new Routetable();
    due("none", x.parting(0, 1), -1L);
    due("the same router", x.parting(3, 3), -1L);
    x.offer(0, -1, 32, 0, 1, 0);
    due("the last", x.parting(0, 1), 4294967295L);
    due("the other way round", x.parting(1, 0), 4294967295L);
    x.offer(1, LOWEST, 32, 0, 1, 0);
    due("of two the first", x.parting(0, 1), 2147483648L);
    x.offer(0, 0, 32, 0, 1, 0);
    due("0", x.parting(0, 1), 0L);
    x.offer(2, TEN, 8, 0, 1, 0);
    x.offer(3, TEN, 9, 0, 1, 0);
    due("inside of a prefix", x.parting(2, 3), 176160768L);
  }

  private static void differ() {
    says("Returns how many ADDRESSES have not the same WAY at both.");
    Routetable x = new Routetable();
    due("none", x.differ(0, 1), 0L);
    x.offer(0, 0, 0, 0, 0, 0);
    due("all", x.differ(0, 1), 4294967296L);
    due("the other way round", x.differ(1, 0), 4294967296L);
    due("the same router", x.differ(0, 0), 0L);
    x.offer(1, 0, 0, 0, 0, 0);
    x.offer(1, -1, 32, 0, 1, 0);
    x.offer(0, 0, 32, 0, 1, 0);
    due("the first and the last", x.differ(0, 1), 2L);
    x.offer(0, -1, 31, 0, 2, 0);
    due("a range in part of a range", x.differ(0, 1), 3L);
  }
}
