/** The document's sentences on the net (part 5), and promises 6, 7, 10 and 35 to 41. */
public final class NetTest extends Checks {
  public static void main(String[] args) {
    links();
    linkBefore();
    diesWithoutAPrefix();
    diesByAHole();
    diesByNowhere();
    arrives();
    comesToARouter();
    hitsOfEachHop();
    hitsOfTheDead();
    noHitsOfTraces();
    life();
    secondTime();
    traceTexts();
    fates();
    allFates();
    firstOfFates();
    lastEight();
    recentStays();
    lost();
    noneInRecent();
    knocks();
    end();
  }

  private static void links() {
    says("Each WAY of each ROUTER has a LINK: NOWHERE (-1, at first), to a ROUTER (0 to 3; also to itself), or OUT (4).");
    Routetable x = new Routetable();
    for (int router = 0; router < 4; router++) {
      for (int way = 0; way <= 5; way++) {
        due("at first", x.linkOf(router, way), -1);
        x.link(router, way, (router + way) % 6 - 1);
      }
    }
    for (int router = 0; router < 4; router++) {
      for (int way = 0; way <= 5; way++) {
        due("each its own", x.linkOf(router, way), (router + way) % 6 - 1);
      }
    }
    x.link(2, 0, 2);
    due("to itself", x.linkOf(2, 0), 2);
  }

  private static void linkBefore() {
    says("Returns the LINK before.");
    Routetable x = new Routetable();
    due("at first", x.link(3, 5, 4), -1);
    due("out", x.link(3, 5, 0), 4);
    due("the router 0", x.link(3, 5, 3), 0);
    due("itself", x.link(3, 5, -1), 3);
    due("nowhere", x.link(3, 5, -1), -1);
    due("nowhere again", x.link(3, 5, 1), -1);
  }

  private static void diesWithoutAPrefix() {
    says("without a BEST PREFIX, by a HOLE, or by a WAY whose LINK is NOWHERE, it DIES");
    Routetable x = new Routetable();
    x.link(0, 0, 4);
    due("send", x.send(0, TEN, 1), NONE);
    due("trace", x.trace(0, TEN), "0>dead");
    due("fate", x.fate(0, TEN), 1);
    x.offer(0, TEN, 8, 0, 0, 0);
    due("before the prefix", x.send(0, TEN - 1, 9), NONE);
    due("behind the prefix", x.send(0, ip(11, 0, 0, 0), 9), NONE);
    due("at its first address", x.send(0, TEN, 9), 1);
    due("at its last address", x.send(0, ip(10, 255, 255, 255), 9), 1);
  }

  private static void diesByAHole() {
    about("by a HOLE it DIES");
    Routetable x = new Routetable();
    for (int way = 0; way <= 5; way++) {
      x.link(0, way, 4);
    }
    x.offer(0, 0, 0, 0, 0, 0);
    x.offer(0, TEN, 8, 0, NONE, 0);
    due("send", x.send(0, TEN, 1), NONE);
    due("trace", x.trace(0, TEN), "0>dead");
    due("fate", x.fate(0, TEN), 1);
    due("reach", x.reach(0, 1), 1L << 24);
    due("beside the hole", x.send(0, TWENTY, 1), 1);
  }

  private static void diesByNowhere() {
    about("by a WAY whose LINK is NOWHERE it DIES");
    Routetable x = new Routetable();
    x.offer(0, 0, 0, 0, 5, 0);
    due("never linked", x.send(0, TEN, 1), NONE);
    x.link(0, 5, 4);
    due("linked", x.send(0, TEN, 1), 1);
    x.link(0, 5, -1);
    due("not any more", x.send(0, TEN, 1), NONE);
    due("trace", x.trace(0, TEN), "0>dead");
  }

  private static void arrives() {
    says("by a WAY whose LINK is OUT it ARRIVES");
    Routetable x = chain();
    due("from 3", x.send(3, 0, 1), 1);
    due("trace", x.trace(3, 0), "3>out");
    due("from 2", x.send(2, 0, 2), 2);
    due("from 0", x.send(0, 0, 4), 4);
    due("fate", x.fate(0, 0), 0);
  }

  private static void comesToARouter() {
    says("otherwise it comes to the ROUTER of the LINK.");
    Routetable x = new Routetable();
    for (int to = 0; to < 4; to++) {
      x.offer(0, ip(to, 0, 0, 0), 8, 0, to, 0);
      x.link(0, to, to);
      due("dies there", x.trace(0, ip(to, 0, 0, 0)), to == 0 ? "0>0" : "0>" + to + ">dead");
    }
  }

  private static void hitsOfEachHop() {
    says("Each HOP with a BEST PREFIX (also if it DIES by a HOLE or NOWHERE) adds 1 to the HITS of that one");
    Routetable x = chain();
    x.send(0, 0, 9);
    for (int router = 0; router < 4; router++) {
      due("once at " + router, x.hits(router, 0, 0), 1);
    }
    x.send(0, 0, 2);
    due("the life ends at 1", x.hits(1, 0, 0), 2);
    due("so not at 2", x.hits(2, 0, 0), 1);
    x.send(0, TEN, 9);
    due("1 at hops 2, 5 and 8", x.hits(1, 0, 0), 5);
    due("2 at hops 3, 6 and 9", x.hits(2, 0, 0), 4);
    due("3 at hops 4 and 7, by the longest", x.hits(3, TEN, 8), 2);
    due("all at 3", x.table(3, 4), 3);
    x.link(0, 0, 0);
    x.send(0, 0, 9);
    due("nine times by itself", x.hits(0, 0, 0), 12);
  }

  private static void hitsOfTheDead() {
    about("HITS, also if it DIES by a HOLE or NOWHERE");
    Routetable x = new Routetable();
    x.offer(0, TEN, 8, 0, NONE, 0);
    x.offer(0, 0, 0, 0, 2, 0);
    x.send(0, TEN, 1);
    due("by a hole", x.hits(0, TEN, 8), 1);
    due("not the shorter one", x.hits(0, 0, 0), 0);
    x.send(0, 0, 1);
    due("by nowhere", x.hits(0, 0, 0), 1);
    x.withdraw(0, 0, 0, 0);
    x.send(0, 0, 1);
    due("without a prefix none", x.table(0, 4), 1);
  }

  private static void noHitsOfTraces() {
    says("if the message was sent (not if it is only traced).");
    Routetable x = chain();
    x.trace(0, TEN);
    x.fate(0, TEN);
    x.reach(0, 2);
    x.firstOf(0, 2);
    x.digest();
    x.isSound();
    for (int router = 0; router < 4; router++) {
      due("hits", x.table(router, 4), 0);
    }
    due("recent and lost", x.books(0) + x.books(1), 0);
  }

  private static void life() {
    says("Returns how many HOPS there were, if it ARRIVED; NONE, if it DIED; REFUSED, if it did neither in so many HOPS.");
    Routetable x = chain();
    for (int life = 1; life <= 9; life++) {
      due("four hops in " + life, x.send(0, 0, life), life < 4 ? REFUSED : 4);
      due("dead at the third in " + life, x.send(0, TWENTY, life), life < 3 ? REFUSED : NONE);
      due("round and round in " + life, x.send(0, TEN, life), REFUSED);
    }
    x.clear(2);
    due("to a router without a prefix in 2", x.send(0, 0, 2), REFUSED);
    due("in 3", x.send(0, 0, 3), NONE);
    argument(x, "in 0", () -> x.send(0, 0, 0));
    argument(x, "in 10", () -> x.send(0, 0, 10));
    argument(x, "in the lowest", () -> x.send(0, 0, LOWEST));
  }

  private static void secondTime() {
    says("comes to a ROUTER for the second time (it GOES ROUND then; that from which it starts counts as come to: "
        + "\"0>1>0\").");
    Routetable x = new Routetable();
    for (int router = 0; router < 4; router++) {
      x.offer(router, 0, 0, 0, 0, 0);
      x.link(router, 0, (router + 1) % 4);
    }
    due("all four", x.trace(0, 0), "0>1>2>3>0");
    x.link(1, 0, 0);
    due("to the start", x.trace(0, 0), "0>1>0");
    due("to the second", x.trace(3, 0), "3>0>1>0");
    x.link(0, 0, 0);
    due("to itself", x.trace(0, 0), "0>0");
    due("another one to itself", x.trace(2, 0), "2>3>0>0");
    due("fate", x.fate(2, 0), 2);
  }

  private static void traceTexts() {
    says("Returns the ROUTERS of the TRACE with \">\" behind each, the first being the one told; then \"out\", if the "
        + "message ARRIVES, \"dead\", if it DIES, or, if it GOES ROUND, the ROUTER to which it comes the second time "
        + "(\"0>2>out\", \"0>1>dead\", \"0>1>2>1\").");
    Routetable x = new Routetable();
    for (int router = 0; router < 3; router++) {
      x.offer(router, 0, 0, 0, 0, 0);
    }
    x.link(0, 0, 2);
    x.link(2, 0, 4);
    due("out", x.trace(0, -1), "0>2>out");
    x.link(0, 0, 1);
    due("dead", x.trace(0, -1), "0>1>dead");
    x.link(1, 0, 2);
    x.link(2, 0, 1);
    due("round", x.trace(0, -1), "0>1>2>1");
    due("at once dead", x.trace(3, -1), "3>dead");
    due("the longest", chain().trace(0, 0), "0>1>2>3>out");
  }

  private static void fates() {
    says("Returns 0 if it ARRIVES from that ROUTER, 1 if it DIES, 2 if it GOES ROUND.");
    Routetable x = chain();
    due("arrives", x.fate(0, TEN - 1), 0);
    due("goes round", x.fate(0, TEN), 2);
    due("goes round", x.fate(0, ip(10, 255, 255, 255)), 2);
    due("arrives", x.fate(0, ip(11, 0, 0, 0)), 0);
    due("dies", x.fate(0, TWENTY), 1);
    due("arrives", x.fate(0, ip(21, 0, 0, 0)), 0);
    due("from behind the hole", x.fate(3, TWENTY), 0);
    due("nine hops do not matter", x.send(0, TEN, 9), REFUSED);
  }

  private static void allFates() {
    says("Returns how many ADDRESSES that is so of, from that ROUTER.");
    Routetable x = chain();
    long[] wants = {ALL - (2L << 24), 1L << 24, 1L << 24};
    for (int fate = 0; fate <= 2; fate++) {
      due("of fate " + fate, x.reach(0, fate), wants[fate]);
      due("of fate " + fate + ", empty", new Routetable().reach(3, fate), fate == 1 ? ALL : 0L);
    }
    for (int router = 0; router < 4; router++) {
      due("all fates", x.reach(router, 0) + x.reach(router, 1) + x.reach(router, 2), 4294967296L);
    }
    x.link(0, 0, 0);
    due("all go round", x.reach(0, 2), 4294967296L);
    due("none arrives", x.reach(0, 0), 0L);
    x.link(0, 0, 4);
    due("all arrive", x.reach(0, 0), 4294967296L);
    x.offer(0, -1, 32, 0, 5, 0);
    x.offer(0, 0, 32, 0, NONE, 0);
    due("but two", x.reach(0, 1), 2L);
  }

  private static void firstOfFates() {
    says("Returns the NUMBER of the first ADDRESS that this is so of, from that ROUTER, or NONE.");
    Routetable x = chain();
    due("arrives", x.firstOf(0, 0), 0L);
    due("dies", x.firstOf(0, 1), 335544320L);
    due("goes round", x.firstOf(0, 2), 167772160L);
    due("none dies from 3", x.firstOf(3, 1), -1L);
    x.link(3, 3, -1);
    due("none arrives", x.firstOf(0, 0), -1L);
    due("0 dies", x.firstOf(0, 1), 0L);
    x.offer(0, -1, 32, 0, 5, 0);
    x.link(0, 5, 4);
    due("the last arrives", x.firstOf(0, 0), 4294967295L);
    x.offer(0, -1, 1, 0, 4, 0);
    x.link(0, 4, 0);
    due("above the highest int", x.firstOf(0, 2), 167772160L);
    x.withdraw(3, TEN, 8, 0);
    due("above the highest int", x.firstOf(0, 2), 2147483648L);
  }

  private static void lastEight() {
    says("RECENT: the BEST PREFIXES of the first HOPS of the last 8 messages that were sent and had one at their first "
        + "HOP, the oldest first");
    Routetable x = new Routetable();
    x.link(0, 0, 1);
    x.offer(1, 0, 0, 0, 0, 0);
    for (int i = 0; i < 10; i++) {
      x.offer(0, ip(i, 0, 0, 0), 8, 0, i == 3 ? NONE : 0, 0);
      due("how many before", x.books(0), Math.min(i, 8));
      x.send(0, ip(i, 1, 2, 3), 1 + i % 9);
      due("the oldest", x.recent(0), Math.max(0, i - 7) + ".0.0.0/8");
      due("the youngest", x.recent(Math.min(i, 7)), i + ".0.0.0/8");
    }
    for (int place = 0; place <= 7; place++) {
      due("place " + place, x.recent(place), (place + 2) + ".0.0.0/8");
    }
    due("eight", x.books(0), 8);
    x.send(1, -1, 9);
    due("of another router", x.recent(7), "0.0.0.0/0");
    x.send(1, -1, 9);
    due("the same twice", x.recent(6) + " " + x.recent(7), "0.0.0.0/0 0.0.0.0/0");
    due("the oldest now", x.recent(0), "4.0.0.0/8");
  }

  private static void recentStays() {
    says("(they stay, whatever becomes of the TABLES).");
    Routetable x = sample();
    x.send(0, TEN, 1);
    x.send(0, ip(10, 64, 0, 0), 1);
    x.offer(0, TEN, 8, 0, 5, 5);
    x.withdraw(0, TEN, 8, 0);
    due("withdrawn", x.recent(0), "10.0.0.0/8");
    x.shrink(0);
    x.leave(0, 0);
    x.clear(0);
    due("gone", x.recent(0) + " " + x.recent(1), "10.0.0.0/8 10.64.0.0/32");
    due("two", x.books(0), 2);
  }

  private static void lost() {
    says("LOST: how many messages that were sent had none there.");
    Routetable x = new Routetable();
    due("none", x.books(1), 0);
    x.send(0, TEN, 1);
    x.send(3, TEN, 9);
    due("two", x.books(1), 2);
    x.offer(0, TEN, 8, 0, 0, 0);
    x.link(0, 0, 1);
    x.send(0, TEN, 9);
    due("none at the second hop does not count", x.books(1), 2);
    x.offer(0, TEN, 9, 0, NONE, 0);
    x.send(0, TEN, 9);
    due("a hole does not count", x.books(1), 2);
    due("but is in recent", x.recent(1), "10.0.0.0/9");
    due("nothing of the lost is in recent", x.books(0), 2);
    argument(x, "a refused one", () -> x.send(3, TEN, 10));
    due("does not count", x.books(1), 2);
  }

  private static void noneInRecent() {
    says("Returns the text of the PREFIX there, or \"none\", if so many are not there.");
    Routetable x = sample();
    due("none at first", x.recent(0) + x.recent(7), "nonenone");
    for (int i = 0; i < 8; i++) {
      due("not yet", x.recent(i), "none");
      x.send(0, 0, 1);
      due("there", x.recent(i), "0.0.0.0/0");
    }
    x.send(1, 0, 1);
    due("lost ones do not count", x.recent(0), "0.0.0.0/0");
  }

  private static void knocks() {
    says("Returns how many KNOCKS there were, with this.");
    Routetable x = new Routetable();
    due("none", x.books(2), 0);
    for (int i = 1; i <= 511; i++) {
      due("knock " + i, x.knock(), i);
    }
    due("books", x.books(2), 511);
  }
}
