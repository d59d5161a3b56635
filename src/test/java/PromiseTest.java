import java.math.BigInteger;
import java.util.ArrayList;
import java.util.List;

/** Promise by promise: ordinary calls, the edges that the document names, and wrong inputs. */
public final class PromiseTest extends Checks {
  public static void main(String[] args) {
    aNewObject();
    offer();
    offerRefuses();
    withdraw();
    leave();
    minute();
    link();
    send();
    sendCountsAndRemembers();
    shrink();
    clear();
    knock();
    wayLengthBest();
    without();
    dotted();
    offersAndOfOffer();
    chosen();
    hits();
    penalty();
    table();
    lengthFrom();
    text();
    ranges();
    range();
    rangesText();
    windowAndEdge();
    share();
    leastTables();
    alikePartingDiffer();
    linkOf();
    traceAndFate();
    reachAndFirstOf();
    recentAndBooks();
    isSound();
    digestWrapsAround();
    digest();
    end();
  }

  // ---- the promises

  private static void aNewObject() {
    about("Promise 1");
    Routetable x = new Routetable();
    for (int router = 0; router < 4; router++) {
      for (int what = 0; what <= 5; what++) {
        due("table", x.table(router, what), 0);
      }
      for (int way = 0; way <= 5; way++) {
        due("linkOf", x.linkOf(router, way), -1);
      }
      due("text", x.text(router), "");
      due("rangesText", x.rangesText(router), "0.0.0.0>-1");
      due("least", x.least(router), "");
      due("reach", x.reach(router, 1), ALL);
    }
    for (int what = 0; what <= 2; what++) {
      due("books", x.books(what), 0);
    }
    due("isSound", x.isSound(), true);
    due("objects apart", new Routetable().digest() == x.digest(), true);
    x.knock();
    due("objects apart", new Routetable().books(2), 0);
  }

  private static void offer() {
    about("Promise 2");
    Routetable x = new Routetable();
    due("first", x.offer(1, ip(10, 1, 2, 3), 8, 3, 2, 7), 1);
    due("in the same prefix", x.offer(1, ip(10, 255, 0, 9), 8, 0, NONE, 99), 2);
    due("the third", x.offer(1, ip(10, 0, 0, 0), 8, 1, 5, 0), 3);
    due("the fourth", x.offer(1, ip(10, 0, 0, 0), 8, 2, 0, 0), 4);
    due("replaced", x.offer(1, ip(10, 0, 0, 0), 8, 3, 4, 1), 4);
    due("its way", x.ofOffer(1, ip(10, 0, 0, 0), 8, 3, 0), 4);
    due("its cost", x.ofOffer(1, ip(10, 0, 0, 0), 8, 3, 1), 1);
    due("to replace is not to withdraw", x.penalty(1, ip(10, 0, 0, 0), 8, 3), 0);
    due("one prefix", x.table(1, 0), 1);
    due("other routers", x.table(0, 0) + x.table(2, 0) + x.table(3, 0), 0);
    due("text", x.text(1), "10.0.0.0/8>5");
    due("length 0", x.offer(1, -1, 0, 0, 0, 0), 1);
    due("length 32", x.offer(1, -1, 32, 0, 0, 0), 1);
    due("length 31", x.offer(1, -1, 31, 0, 1, 0), 1);
    due("length 1", x.offer(1, -1, 1, 0, 2, 0), 1);
    due("text", x.text(1),
        "0.0.0.0/0>0 10.0.0.0/8>5 128.0.0.0/1>2 255.255.255.254/31>1 255.255.255.255/32>0");
  }

  private static void offerRefuses() {
    about("Promise 2, refusals");
    Routetable x = sample();
    index(x, "router -1", () -> x.offer(-1, 0, 0, 0, 0, 0));
    index(x, "router 4", () -> x.offer(4, 0, 0, 0, 0, 0));
    index(x, "router lowest", () -> x.offer(LOWEST, 0, 0, 0, 0, 0));
    index(x, "owner -1", () -> x.offer(0, 0, 0, -1, 0, 0));
    index(x, "owner 4", () -> x.offer(0, 0, 0, 4, 0, 0));
    index(x, "owner before length", () -> x.offer(0, 0, 33, 4, 6, 100));
    argument(x, "length -1", () -> x.offer(0, 0, -1, 0, 0, 0));
    argument(x, "length 33", () -> x.offer(0, 0, 33, 0, 0, 0));
    argument(x, "length highest", () -> x.offer(0, 0, HIGHEST, 0, 0, 0));
    argument(x, "way -2", () -> x.offer(0, 0, 0, 0, -2, 0));
    argument(x, "way 6", () -> x.offer(0, 0, 0, 0, 6, 0));
    argument(x, "cost -1", () -> x.offer(0, 0, 0, 0, 0, -1));
    argument(x, "cost 100", () -> x.offer(0, 0, 0, 0, 0, 100));
    for (int i = x.table(0, 0); i < 12; i++) {
      due("room", x.offer(0, ip(20, i, 0, 0), 16, 2, 0, 0), 1);
    }
    state(x, "the thirteenth", () -> x.offer(0, ip(20, 40, 0, 0), 16, 2, 0, 0));
    argument(x, "cost before state", () -> x.offer(0, ip(20, 40, 0, 0), 16, 2, 0, 100));
    index(x, "owner before state", () -> x.offer(0, ip(20, 40, 0, 0), 16, 4, 0, 0));
    due("one of the twelve", x.offer(0, ip(20, 11, 0, 0), 16, 1, 0, 0), 2);
    due("another router", x.offer(1, ip(20, 40, 0, 0), 16, 2, 0, 0), 1);
    due("a place", x.withdraw(0, ip(20, 10, 0, 0), 16, 2), true);
    due("the place taken", x.offer(0, ip(20, 40, 0, 0), 16, 2, 0, 0), 1);
    state(x, "what left and has a penalty", () -> x.offer(0, ip(20, 10, 0, 0), 16, 2, 0, 0));
    due("the penalty stays", x.penalty(0, ip(20, 10, 0, 0), 16, 2), 1000);
  }

  private static void withdraw() {
    about("Promise 3");
    Routetable x = sample();
    due("none of this owner", x.withdraw(0, 0, 0, 1), false);
    due("none of this length", x.withdraw(0, 0, 1, 0), false);
    due("none at this router", x.withdraw(1, 0, 0, 0), false);
    due("no penalty grows", x.table(0, 5) + x.table(1, 5), 0);
    x.offer(0, 0, 0, 1, 4, 0);
    due("there is one", x.withdraw(0, -1, 0, 0), true);
    due("the other stays", x.way(0, 0), 4);
    due("not again", x.withdraw(0, 0, 0, 0), false);
    due("one penalty", x.penalty(0, 0, 0, 0), 1000);
    due("the other has none", x.penalty(0, 0, 0, 1), 0);
    due("the last one", x.withdraw(0, 0, 0, 1), true);
    due("the prefix goes", x.offers(0, 0, 0), 0);
    due("text", x.text(0), "10.0.0.0/8>3 10.64.0.0/10>2 10.64.0.0/32>-1");
    flap(x, 0, 0, 0, 0, 1);
    due("a damped one", x.offer(0, 0, 0, 0, 1, 1), 1);
    due("is damped", x.ofOffer(0, 0, 0, 0, 2), 1);
    due("goes as well", x.withdraw(0, 0, 0, 0), true);
    due("and is punished", x.penalty(0, 0, 0, 0), 3000);
    index(x, "router 4", () -> x.withdraw(4, 0, 0, 0));
    index(x, "router -1", () -> x.withdraw(-1, 0, 0, 0));
    index(x, "owner 4", () -> x.withdraw(0, 0, 33, 4));
    index(x, "owner -1", () -> x.withdraw(0, 0, 0, -1));
    argument(x, "length 33", () -> x.withdraw(0, 0, 33, 0));
    argument(x, "length -1", () -> x.withdraw(0, 0, -1, 0));
  }

  private static void leave() {
    about("Promise 4");
    Routetable x = sample();
    x.offer(0, 0, 0, 1, 4, 50);
    x.offer(1, 0, 0, 0, 4, 50);
    due("an owner without", x.leave(0, 3), 0);
    due("all four", x.leave(0, 0), 4);
    due("again", x.leave(0, 0), 0);
    due("each is punished", x.table(0, 5), 4);
    due("by 1000", x.penalty(0, ip(10, 64, 0, 0), 32, 0), 1000);
    due("what stays", x.text(0), "0.0.0.0/0>4");
    due("the other router", x.offers(1, 0, 0), 1);
    index(x, "router 4", () -> x.leave(4, 0));
    index(x, "router -1", () -> x.leave(-1, 0));
    index(x, "owner 4", () -> x.leave(0, 4));
    index(x, "owner -1", () -> x.leave(0, -1));
  }

  private static void minute() {
    about("Promise 5");
    Routetable x = new Routetable();
    due("without any", x.minute(), 0);
    flap(x, 0, 0, 8, 0, 1);
    flap(x, 3, 0, 8, 1, 2);
    flap(x, 3, 0, 8, 2, 5);
    due("three", x.minute(), 3);
    due("half of 1000", x.penalty(0, 0, 8, 0), 500);
    due("half of 2000", x.penalty(3, 0, 8, 1), 1000);
    due("half of 4000", x.penalty(3, 0, 8, 2), 2000);
    due("250", x.minute(), 3);
    due("125", x.minute(), 3);
    due("125", x.penalty(0, 0, 8, 0), 125);
    due("62 is below 100", x.minute(), 2);
    due("so it is 0", x.penalty(0, 0, 8, 0), 0);
    due("125 and 250", x.penalty(3, 0, 8, 1) * 1000 + x.penalty(3, 0, 8, 2), 125250);
    due("one", x.minute(), 1);
    due("none", x.minute(), 0);

    flap(x, 1, 0, 8, 0, 2);
    x.offer(1, 0, 8, 0, 3, 0);
    due("damped", x.way(1, 0), NONE);
    due("a minute", x.minute(), 1);
    due("not damped", x.way(1, 0), 3);
    due("kept in the table", x.table(1, 0), 1);
    for (int i = 0; i < 4; i++) {
      x.minute();
    }
    due("an offer outlives its penalty", x.way(1, 0), 3);
    due("no penalty", x.table(1, 5), 0);

    Routetable y = new Routetable();
    play(y, "wmwmwmmmwmwmmm");
    due("an odd one", y.penalty(0, ip(10, 0, 0, 0), 8, 1), 201);
    due("100 is not below 100", y.minute(), 1);
    due("half, towards 0", y.penalty(0, ip(10, 0, 0, 0), 8, 1), 100);
    Routetable z = new Routetable();
    play(z, "wmwmmmwmwmmm");
    due("one below", z.penalty(0, ip(10, 0, 0, 0), 8, 1), 199);
    due("99 is below 100", z.minute(), 0);
  }

  private static void link() {
    about("Promise 6");
    Routetable x = new Routetable();
    due("at first", x.link(2, 5, 4), -1);
    due("before", x.link(2, 5, 0), 4);
    due("before", x.link(2, 5, -1), 0);
    due("before", x.link(2, 5, 2), -1);
    due("now", x.linkOf(2, 5), 2);
    due("another way", x.linkOf(2, 4), -1);
    due("another router", x.linkOf(1, 5), -1);
    index(x, "router 4", () -> x.link(4, 6, 5));
    index(x, "router -1", () -> x.link(-1, 0, 0));
    argument(x, "way 6", () -> x.link(0, 6, 0));
    argument(x, "way -1", () -> x.link(0, -1, 0));
    argument(x, "to 5", () -> x.link(0, 0, 5));
    argument(x, "to -2", () -> x.link(0, 0, -2));
  }

  private static void send() {
    about("Promise 7");
    Routetable x = chain();
    due("four hops", x.send(0, 0, 9), 4);
    due("just enough", x.send(0, 0, 4), 4);
    due("one too few", x.send(0, 0, 3), REFUSED);
    due("one hop", x.send(3, 0, 1), 1);
    due("a hole", x.send(0, ip(20, 1, 1, 1), 9), NONE);
    due("a hole at the last hop", x.send(0, ip(20, 1, 1, 1), 3), NONE);
    due("no hole so far", x.send(0, ip(20, 1, 1, 1), 2), REFUSED);
    due("round and round", x.send(0, ip(10, 1, 1, 1), 9), REFUSED);
    x.withdraw(1, 0, 0, 0);
    due("no prefix", x.send(0, 0, 9), NONE);
    x.offer(1, 0, 0, 1, 1, 0);
    x.link(1, 1, -1);
    due("nowhere", x.send(0, 0, 9), NONE);
    x.link(1, 1, 1);
    due("to itself", x.send(0, 0, 9), REFUSED);
    index(x, "router 4", () -> x.send(4, 0, 0));
    index(x, "router -1", () -> x.send(-1, 0, 1));
    argument(x, "life 0", () -> x.send(0, 0, 0));
    argument(x, "life 10", () -> x.send(0, 0, 10));
  }

  private static void sendCountsAndRemembers() {
    about("Promise 7, hits and recent");
    Routetable x = chain();
    x.send(0, ip(10, 1, 1, 1), 9);
    due("0 once", x.hits(0, 0, 0), 1);
    due("1 at hops 2, 5, 8", x.hits(1, 0, 0), 3);
    due("2 at hops 3, 6, 9", x.hits(2, 0, 0), 3);
    due("3 at hops 4, 7", x.hits(3, ip(10, 0, 0, 0), 8), 2);
    due("not the shorter one", x.hits(3, 0, 0), 0);
    x.send(2, ip(20, 0, 0, 0), 9);
    due("by a hole", x.hits(2, ip(20, 0, 0, 0), 8), 1);
    x.link(3, 3, -1);
    x.send(3, 0, 9);
    due("by nowhere", x.hits(3, 0, 0), 1);
    due("recent", x.recent(0) + " " + x.recent(1) + " " + x.recent(2), "0.0.0.0/0 20.0.0.0/8 0.0.0.0/0");
    x.withdraw(1, 0, 0, 0);
    x.send(0, 0, 9);
    due("not lost at a later hop", x.books(1), 0);
    due("but recent", x.books(0), 4);
    x.send(1, 0, 9);
    due("lost at the first hop", x.books(1), 1);
    due("and not recent", x.books(0), 4);
    due("a hop without a prefix", x.hits(1, 0, 0), REFUSED);
  }

  private static void shrink() {
    about("Promise 8");
    Routetable x = sample();
    x.offer(0, ip(10, 64, 0, 0), 10, 1, 2, 0);
    x.offer(0, ip(20, 0, 0, 0), 8, 1, 1, 0);
    x.offer(0, ip(10, 0, 0, 0), 8, 3, 3, 50);
    flap(x, 0, ip(30, 0, 0, 0), 8, 2, 1);
    x.send(0, ip(10, 0, 0, 0), 1);
    x.link(0, 3, 2);
    String before = x.rangesText(0);
    due("the redundant one goes", x.shrink(0), 4);
    due("text", x.text(0), "0.0.0.0/0>1 10.0.0.0/8>3 10.64.0.0/10>2 10.64.0.0/32>-1");
    due("ranges stay", x.rangesText(0), before);
    due("one offer each", x.table(0, 2), 4);
    due("of the owner 0", x.chosen(0, ip(10, 0, 0, 0), 8), 0);
    due("for nothing", x.ofOffer(0, 0, 0, 0, 1), 0);
    due("owner 1 has none", x.ofOffer(0, ip(10, 64, 0, 0), 10, 1, 1), REFUSED);
    due("no hits", x.table(0, 4), 0);
    due("no penalties", x.table(0, 5), 0);
    due("links stay", x.linkOf(0, 3), 2);
    due("recent stays", x.recent(0), "10.0.0.0/8");

    Routetable y = new Routetable();
    due("nothing to shrink", y.shrink(3), 0);
    y.offer(3, 0, 0, 0, NONE, 0);
    y.offer(3, 0, 1, 0, NONE, 0);
    due("holes in nothing", y.shrink(3), 0);
    y.offer(3, 5, 32, 0, 0, 0);
    y.offer(3, 4, 32, 0, 0, 0);
    y.offer(3, 6, 31, 0, 0, 0);
    due("three to one", y.shrink(3), 1);
    due("text", y.text(3), "0.0.0.4/30>0");
    index(x, "router 4", () -> x.shrink(4));
    index(x, "router -1", () -> x.shrink(-1));
  }

  private static void clear() {
    about("Promise 9");
    Routetable x = sample();
    x.link(0, 1, 4);
    x.send(0, ip(99, 0, 0, 0), 1);
    flap(x, 0, ip(30, 0, 0, 0), 8, 2, 2);
    x.offer(1, 0, 0, 0, 1, 0);
    due("how many", x.clear(0), 4);
    due("again", x.clear(0), 0);
    for (int what = 0; what <= 5; what++) {
      due("table", x.table(0, what), 0);
    }
    due("the penalty is 0", x.penalty(0, ip(30, 0, 0, 0), 8, 2), 0);
    due("links stay", x.linkOf(0, 1), 4);
    due("the other router", x.table(1, 0), 1);
    due("recent stays", x.recent(0), "0.0.0.0/0");
    due("ranges", x.rangesText(0), "0.0.0.0>-1");
    x.offer(0, 0, 0, 0, 1, 0);
    due("hits anew", x.hits(0, 0, 0), 0);
    index(x, "router 4", () -> x.clear(4));
    index(x, "router -1", () -> x.clear(-1));
  }

  private static void knock() {
    about("Promise 10");
    Routetable x = new Routetable();
    due("one", x.knock(), 1);
    due("two", x.knock(), 2);
    due("books", x.books(2), 2);
  }

  private static void wayLengthBest() {
    about("Promises 11 to 13");
    Routetable x = sample();
    int[] addresses = {0, ip(9, 255, 255, 255), ip(10, 0, 0, 0), ip(10, 63, 255, 255), ip(10, 64, 0, 0),
        ip(10, 64, 0, 1), ip(10, 127, 255, 255), ip(10, 128, 0, 0), ip(10, 255, 255, 255), ip(11, 0, 0, 0), -1};
    int[] ways = {1, 1, 3, 3, NONE, 2, 2, 3, 3, 1, 1};
    int[] lengths = {0, 0, 8, 8, 32, 10, 10, 8, 8, 0, 0};
    for (int i = 0; i < addresses.length; i++) {
      due("way " + i, x.way(0, addresses[i]), ways[i]);
      due("length " + i, x.length(0, addresses[i]), lengths[i]);
    }
    due("best", x.best(0, ip(10, 64, 0, 0)), "10.64.0.0/32");
    due("best", x.best(0, ip(10, 64, 0, 1)), "10.64.0.0/10");
    due("best", x.best(0, -1), "0.0.0.0/0");
    due("none", x.best(1, -1), "none");
    due("none", x.length(1, -1), NONE);
    due("none", x.way(1, -1), NONE);
    flap(x, 0, ip(10, 0, 0, 0), 8, 0, 2);
    x.offer(0, ip(10, 0, 0, 0), 8, 0, 3, 4);
    due("a damped prefix is as if it were not there", x.way(0, ip(10, 0, 0, 0)), 1);
    due("also for best", x.best(0, ip(10, 0, 0, 0)), "0.0.0.0/0");
    index(x, "way at 4", () -> x.way(4, 0));
    index(x, "way at -1", () -> x.way(-1, 0));
    index(x, "length at 4", () -> x.length(4, 0));
    index(x, "length at -1", () -> x.length(-1, 0));
    index(x, "best at 4", () -> x.best(4, 0));
    index(x, "best at -1", () -> x.best(-1, 0));
  }

  private static void without() {
    about("Promise 14");
    Routetable x = sample();
    due("the next longest", x.without(0, ip(10, 64, 0, 0), 32, ip(10, 64, 0, 0)), 2);
    due("told by another address", x.without(0, ip(10, 99, 0, 0), 10, ip(10, 64, 0, 1)), 3);
    due("a longer one stays", x.without(0, ip(10, 64, 0, 0), 10, ip(10, 64, 0, 0)), NONE);
    due("none left", x.without(0, 77, 0, 0), NONE);
    due("not in the table", x.without(0, 0, 1, 0), 1);
    due("another router", x.without(1, 0, 0, 0), NONE);
    due("nothing is changed", x.way(0, ip(10, 64, 0, 1)), 2);
    index(x, "router 4", () -> x.without(4, 0, 33, 0));
    index(x, "router -1", () -> x.without(-1, 0, 0, 0));
    argument(x, "length 33", () -> x.without(0, 0, 33, 0));
    argument(x, "length -1", () -> x.without(0, 0, -1, 0));
  }

  private static void dotted() {
    about("Promise 15");
    Routetable x = new Routetable();
    due("0", x.dotted(0), "0.0.0.0");
    due("-1", x.dotted(-1), "255.255.255.255");
    due("lowest", x.dotted(LOWEST), "128.0.0.0");
    due("highest", x.dotted(HIGHEST), "127.255.255.255");
    due("10.0.0.255", x.dotted(ip(10, 0, 0, 255)), "10.0.0.255");
    due("1.2.3.4", x.dotted(ip(1, 2, 3, 4)), "1.2.3.4");
  }

  private static void offersAndOfOffer() {
    about("Promises 16 and 17");
    Routetable x = sample();
    x.offer(0, ip(10, 0, 0, 0), 8, 3, NONE, 99);
    due("offers", x.offers(0, ip(10, 9, 9, 9), 8), 2);
    due("one", x.offers(0, 0, 0), 1);
    due("not there", x.offers(0, 0, 9), 0);
    due("another router", x.offers(1, 0, 0), 0);
    due("way", x.ofOffer(0, ip(10, 0, 0, 0), 8, 0, 0), 3);
    due("cost", x.ofOffer(0, ip(10, 0, 0, 0), 8, 0, 1), 4);
    due("not damped", x.ofOffer(0, ip(10, 0, 0, 0), 8, 0, 2), 0);
    due("hole", x.ofOffer(0, ip(10, 9, 9, 9), 8, 3, 0), NONE);
    due("cost of the hole", x.ofOffer(0, ip(10, 0, 0, 0), 8, 3, 1), 99);
    due("no offer", x.ofOffer(0, ip(10, 0, 0, 0), 8, 1, 0), REFUSED);
    due("no prefix", x.ofOffer(0, 0, 9, 0, 0), REFUSED);
    flap(x, 0, 0, 0, 0, 1);
    due("a penalty without an offer", x.ofOffer(0, 0, 0, 0, 2), REFUSED);
    due("a penalty without an offer", x.offers(0, 0, 0), 0);
    flap(x, 0, 0, 0, 0, 1);
    x.offer(0, 0, 0, 0, 1, 1);
    due("damped", x.ofOffer(0, 0, 0, 0, 2), 1);
    due("a damped one counts", x.offers(0, 0, 0), 1);
    index(x, "offers at 4", () -> x.offers(4, 0, 33));
    index(x, "offers at -1", () -> x.offers(-1, 0, 0));
    argument(x, "offers length 33", () -> x.offers(0, 0, 33));
    argument(x, "offers length -1", () -> x.offers(0, 0, -1));
    index(x, "ofOffer at 4", () -> x.ofOffer(4, 0, 33, 0, 0));
    index(x, "ofOffer at -1", () -> x.ofOffer(-1, 0, 0, 0, 0));
    index(x, "ofOffer owner 4", () -> x.ofOffer(0, 0, 33, 4, 3));
    index(x, "ofOffer owner -1", () -> x.ofOffer(0, 0, 0, -1, 0));
    argument(x, "ofOffer length 33", () -> x.ofOffer(0, 0, 33, 0, 0));
    argument(x, "ofOffer length -1", () -> x.ofOffer(0, 0, -1, 0, 0));
    argument(x, "ofOffer what 3", () -> x.ofOffer(0, 0, 0, 0, 3));
    argument(x, "ofOffer what -1", () -> x.ofOffer(0, 0, 0, 0, -1));
    argument(x, "what also without an offer", () -> x.ofOffer(1, 0, 0, 0, 3));
  }

  private static void chosen() {
    about("Promise 18");
    Routetable x = new Routetable();
    due("not in the table", x.chosen(0, 0, 0), NONE);
    x.offer(0, 0, 0, 3, 1, 5);
    x.offer(0, 0, 0, 2, 2, 5);
    due("of the same cost the smallest owner", x.chosen(0, 0, 0), 2);
    due("its way", x.way(0, 0), 2);
    x.offer(0, 0, 0, 3, 1, 4);
    due("the least cost", x.chosen(0, -1, 0), 3);
    due("its way", x.way(0, 0), 1);
    x.offer(0, 0, 0, 0, NONE, 4);
    due("a hole", x.chosen(0, 0, 0), 0);
    due("its way", x.way(0, 0), NONE);
    flap(x, 0, 0, 0, 0, 1);
    due("one penalty of 1000 does not damp", x.offer(0, 0, 0, 0, 5, 0) + x.chosen(0, 0, 0), 3);
    flap(x, 0, 0, 0, 0, 1);
    x.offer(0, 0, 0, 0, 5, 0);
    due("damped", x.chosen(0, 0, 0), 3);
    x.leave(0, 3);
    x.leave(0, 2);
    due("only a damped one", x.chosen(0, 0, 0), NONE);
    due("in the table", x.table(0, 0), 1);
    index(x, "router 4", () -> x.chosen(4, 0, 33));
    index(x, "router -1", () -> x.chosen(-1, 0, 0));
    argument(x, "length 33", () -> x.chosen(0, 0, 33));
    argument(x, "length -1", () -> x.chosen(0, 0, -1));
  }

  private static void hits() {
    about("Promise 19");
    Routetable x = sample();
    due("none so far", x.hits(0, 0, 0), 0);
    due("not in the table", x.hits(0, 0, 1), REFUSED);
    x.send(0, 0, 9);
    x.send(0, 1, 9);
    x.send(0, ip(10, 0, 0, 0), 9);
    due("two", x.hits(0, -1, 0), 2);
    due("one", x.hits(0, ip(10, 0, 0, 0), 8), 1);
    x.trace(0, 0);
    x.fate(0, 0);
    x.reach(0, 0);
    due("a trace is no hit", x.hits(0, 0, 0), 2);
    x.offer(0, 0, 0, 0, 2, 2);
    due("they stay with a new offer", x.hits(0, 0, 0), 2);
    x.offer(0, 0, 0, 1, 2, 2);
    x.withdraw(0, 0, 0, 0);
    due("they stay with another offer", x.hits(0, 0, 0), 2);
    x.withdraw(0, 0, 0, 1);
    due("they go with the prefix", x.hits(0, 0, 0), REFUSED);
    x.offer(0, 0, 0, 1, 2, 2);
    due("anew", x.hits(0, 0, 0), 0);
    index(x, "router 4", () -> x.hits(4, 0, 33));
    index(x, "router -1", () -> x.hits(-1, 0, 0));
    argument(x, "length 33", () -> x.hits(0, 0, 33));
    argument(x, "length -1", () -> x.hits(0, 0, -1));
  }

  private static void penalty() {
    about("Promise 20");
    Routetable x = new Routetable();
    due("at first", x.penalty(0, 0, 0, 0), 0);
    int[] wants = {1000, 2000, 3000, 4000, 4000};
    for (int want : wants) {
      flap(x, 0, ip(10, 0, 0, 0), 8, 1, 1);
      due("grows", x.penalty(0, ip(10, 7, 0, 0), 8, 1), want);
    }
    due("of another length", x.penalty(0, ip(10, 0, 0, 0), 9, 1), 0);
    due("of another owner", x.penalty(0, ip(10, 0, 0, 0), 8, 0), 0);
    due("at another router", x.penalty(1, ip(10, 0, 0, 0), 8, 1), 0);
    x.offer(0, ip(10, 0, 0, 0), 8, 1, 0, 0);
    x.leave(0, 1);
    due("4000 at most by leave, too", x.penalty(0, ip(10, 0, 0, 0), 8, 1), 4000);
    x.offer(0, ip(10, 0, 0, 0), 8, 1, 0, 0);
    x.minute();
    due("2000 damps", x.ofOffer(0, ip(10, 0, 0, 0), 8, 1, 2), 1);
    x.withdraw(0, ip(10, 0, 0, 0), 8, 1);
    x.minute();
    due("1500", x.penalty(0, ip(10, 0, 0, 0), 8, 1), 1500);
    x.offer(0, ip(10, 0, 0, 0), 8, 1, 0, 0);
    due("1500 damps", x.ofOffer(0, ip(10, 0, 0, 0), 8, 1, 2), 1);
    Routetable y = new Routetable();
    play(y, "wmwmwmwmwmwmwmwmwmmw");
    due("1499", y.penalty(0, ip(10, 0, 0, 0), 8, 1), 1499);
    y.offer(0, ip(10, 0, 0, 0), 8, 1, 0, 0);
    due("1499 does not damp", y.ofOffer(0, ip(10, 0, 0, 0), 8, 1, 2), 0);
    index(x, "router 4", () -> x.penalty(4, 0, 33, 0));
    index(x, "router -1", () -> x.penalty(-1, 0, 0, 0));
    index(x, "owner 4", () -> x.penalty(0, 0, 33, 4));
    index(x, "owner -1", () -> x.penalty(0, 0, 0, -1));
    argument(x, "length 33", () -> x.penalty(0, 0, 33, 0));
    argument(x, "length -1", () -> x.penalty(0, 0, -1, 0));
  }

  private static void table() {
    about("Promise 21");
    Routetable x = sample();
    x.offer(0, ip(20, 0, 0, 0), 8, 2, 0, 0);
    x.offer(0, 0, 0, 3, 0, 0);
    flap(x, 0, ip(10, 64, 0, 0), 10, 1, 3);
    x.leave(0, 0);
    x.offer(0, ip(10, 64, 0, 0), 10, 1, 0, 0);
    x.offer(0, ip(30, 0, 0, 0), 16, 1, 0, 0);
    x.send(0, 0, 9);
    x.send(0, ip(20, 0, 0, 0), 9);
    x.send(0, ip(30, 0, 0, 0), 9);
    int[] wants = {4, 3, 4, 3, 3, 5};
    for (int what = 0; what <= 5; what++) {
      due("table " + what, x.table(0, what), wants[what]);
      due("another router", x.table(1, what), 0);
    }
    x.offer(0, ip(40, 0, 0, 0), 16, 1, 0, 0);
    due("two of one length", x.table(0, 3), 3);
    index(x, "router 4", () -> x.table(4, 6));
    index(x, "router -1", () -> x.table(-1, 0));
    argument(x, "what 6", () -> x.table(0, 6));
    argument(x, "what -1", () -> x.table(0, -1));
  }

  private static void lengthFrom() {
    about("Promise 22");
    Routetable x = sample();
    x.withdraw(0, 0, 0, 0);
    due("down", x.lengthFrom(0, 32, true), 32);
    due("down", x.lengthFrom(0, 31, true), 10);
    due("down", x.lengthFrom(0, 10, true), 10);
    due("down", x.lengthFrom(0, 9, true), 8);
    due("down", x.lengthFrom(0, 7, true), NONE);
    due("down", x.lengthFrom(0, -1, true), NONE);
    due("up", x.lengthFrom(0, 0, false), 8);
    due("up", x.lengthFrom(0, 8, false), 8);
    due("up", x.lengthFrom(0, 9, false), 10);
    due("up", x.lengthFrom(0, 11, false), 32);
    due("up", x.lengthFrom(1, 0, false), NONE);
    x.withdraw(0, ip(10, 64, 0, 0), 32, 0);
    due("up", x.lengthFrom(0, 11, false), NONE);
    due("up", x.lengthFrom(0, 32, false), NONE);
    due("refused", x.lengthFrom(0, -1, false), REFUSED);
    due("refused", x.lengthFrom(0, -2, true), REFUSED);
    due("refused", x.lengthFrom(0, -2, false), REFUSED);
    due("refused", x.lengthFrom(0, LOWEST, true), REFUSED);
    x.offer(0, 0, 0, 1, 1, 1);
    due("down to 0", x.lengthFrom(0, 7, true), 0);
    due("up from 0", x.lengthFrom(0, 0, false), 0);
    due("down from -1", x.lengthFrom(0, -1, true), NONE);
    flap(x, 0, ip(10, 0, 0, 0), 8, 0, 2);
    x.offer(0, ip(10, 0, 0, 0), 8, 0, 1, 1);
    due("not a damped one", x.lengthFrom(0, 8, true), 0);
    index(x, "router 4", () -> x.lengthFrom(4, 33, true));
    index(x, "router -1", () -> x.lengthFrom(-1, -2, true));
    argument(x, "from 33", () -> x.lengthFrom(0, 33, true));
    argument(x, "from highest", () -> x.lengthFrom(0, HIGHEST, false));
  }

  private static void text() {
    about("Promise 23");
    Routetable x = new Routetable();
    due("empty", x.text(2), "");
    x.offer(2, -1, 32, 0, 5, 0);
    x.offer(2, LOWEST, 1, 0, NONE, 0);
    x.offer(2, 0, 1, 0, 0, 0);
    x.offer(2, LOWEST, 32, 0, 1, 0);
    x.offer(2, LOWEST, 2, 0, 2, 0);
    due("in their order, as numbers without a sign", x.text(2),
        "0.0.0.0/1>0 128.0.0.0/1>-1 128.0.0.0/2>2 128.0.0.0/32>1 255.255.255.255/32>5");
    flap(x, 2, 0, 1, 0, 1);
    flap(x, 2, 0, 1, 0, 1);
    x.offer(2, 0, 1, 0, 0, 0);
    due("only live ones", x.text(2), "128.0.0.0/1>-1 128.0.0.0/2>2 128.0.0.0/32>1 255.255.255.255/32>5");
    index(x, "router 4", () -> x.text(4));
    index(x, "router -1", () -> x.text(-1));
  }

  private static void ranges() {
    about("Promise 24");
    Routetable x = sample();
    due("at first", x.ranges(1), 1);
    due("of the sample", x.ranges(0), 6);
    x.offer(0, ip(10, 0, 0, 0), 8, 1, 1, 0);
    due("one way on both sides", x.ranges(0), 4);
    x.offer(1, 0, 0, 0, NONE, 0);
    x.offer(1, 0, 8, 0, NONE, 0);
    due("a hole and nothing are one", x.ranges(1), 1);
    x.offer(2, 0, 32, 0, 1, 0);
    x.offer(2, -1, 32, 0, 1, 0);
    due("the last address and the first are no neighbours", x.ranges(2), 3);
    for (int i = 0; i < 12; i++) {
      x.offer(3, ip(10 * i + 10, 0, 0, 0), 8, 0, 1, 0);
    }
    due("the most", x.ranges(3), 25);
    index(x, "router 4", () -> x.ranges(4));
    index(x, "router -1", () -> x.ranges(-1));
  }

  private static void range() {
    about("Promise 25");
    Routetable x = sample();
    due("begin", x.range(0, 1, 0), 167772160L);
    due("end", x.range(0, 1, 1), 171966463L);
    due("way", x.range(0, 1, 2), 3L);
    due("size", x.range(0, 2, 3), 1L);
    due("way of the hole", x.range(0, 2, 2), -1L);
    due("end of the last", x.range(0, 5, 1), ALL - 1);
    due("all", x.range(1, 0, 3), ALL);
    due("none", x.range(1, 0, 2), -1L);
    index(x, "router 4", () -> x.range(4, 0, 4));
    index(x, "router -1", () -> x.range(-1, 0, 0));
    index(x, "number 6", () -> x.range(0, 6, 0));
    index(x, "number -1", () -> x.range(0, -1, 0));
    index(x, "number before what", () -> x.range(0, 6, 4));
    index(x, "number highest", () -> x.range(0, HIGHEST, 0));
    argument(x, "what 4", () -> x.range(0, 0, 4));
    argument(x, "what -1", () -> x.range(0, 0, -1));
  }

  private static void rangesText() {
    about("Promise 26");
    Routetable x = sample();
    due("at first", x.rangesText(1), "0.0.0.0>-1");
    due("of the sample", x.rangesText(0),
        "0.0.0.0>1 10.0.0.0>3 10.64.0.0>-1 10.64.0.1>2 10.128.0.0>3 11.0.0.0>1");
    index(x, "router 4", () -> x.rangesText(4));
    index(x, "router -1", () -> x.rangesText(-1));
  }

  private static void windowAndEdge() {
    about("Promises 27 and 28");
    Routetable x = sample();
    due("all", x.window(0, 0, -1), 6);
    due("both count", x.window(0, ip(10, 0, 0, 0), ip(10, 64, 0, 0)), 2);
    due("neither", x.window(0, ip(10, 0, 0, 1), ip(10, 63, 255, 255)), 0);
    due("one address", x.window(0, ip(10, 64, 0, 1), ip(10, 64, 0, 1)), 1);
    due("the first begin", x.window(1, 0, 0), 1);
    due("no begin", x.window(1, 1, -1), 0);
    due("refused", x.window(0, -1, 0), REFUSED);
    due("refused", x.window(0, LOWEST, HIGHEST), REFUSED);
    due("not refused", x.window(0, HIGHEST, LOWEST), 0);
    index(x, "window at 4", () -> x.window(4, 1, 0));
    index(x, "window at -1", () -> x.window(-1, 0, 0));

    due("first", x.edge(0, ip(10, 0, 0, 0), -1, false), 167772160L);
    due("last", x.edge(0, ip(10, 0, 0, 0), -1, true), 184549376L);
    due("first of all", x.edge(0, 0, -1, false), 0L);
    due("last at to", x.edge(0, 0, ip(10, 64, 0, 1), true), 171966465L);
    due("none", x.edge(0, 1, 2, true), -1L);
    due("none", x.edge(0, 1, 2, false), -1L);
    x.offer(0, -1, 32, 0, 5, 0);
    due("the last address", x.edge(0, -1, -1, true), ALL - 1);
    due("the last address", x.edge(0, HIGHEST, LOWEST + 5, true), -1L);
    index(x, "edge at 4", () -> x.edge(4, 1, 0, true));
    index(x, "edge at -1", () -> x.edge(-1, 0, 0, true));
    argument(x, "from above to", () -> x.edge(0, 1, 0, true));
    argument(x, "from above to", () -> x.edge(0, LOWEST, HIGHEST, false));
  }

  private static void share() {
    about("Promise 29");
    Routetable x = sample();
    due("way 2", x.share(0, 2), 4194303L);
    due("way 3", x.share(0, 3), 12582912L);
    due("way 1", x.share(0, 1), ALL - 16777216L);
    due("none", x.share(0, -1), 1L);
    due("way 5", x.share(0, 5), 0L);
    due("all", x.share(1, -1), ALL);
    index(x, "router 4", () -> x.share(4, 6));
    index(x, "router -1", () -> x.share(-1, 0));
    argument(x, "way 6", () -> x.share(0, 6));
    argument(x, "way -2", () -> x.share(0, -2));
  }

  private static void leastTables() {
    about("Promises 30 and 31");
    Routetable x = new Routetable();
    due("empty", x.least(0), "");
    due("empty", x.leastSize(0), 0);
    x.offer(0, 0, 1, 0, 1, 0);
    x.offer(0, -1, 1, 0, 2, 0);
    x.offer(0, -1, 2, 0, 1, 0);
    due("in common", x.least(0), "0.0.0.0/0>1 128.0.0.0/2>2");
    due("size", x.leastSize(0), 2);
    x.offer(1, 0, 1, 0, 4, 0);
    x.offer(1, -1, 1, 0, 2, 0);
    due("nothing in common: the smallest", x.least(1), "0.0.0.0/0>2 0.0.0.0/1>4");
    x.offer(2, 5, 32, 0, 0, 0);
    x.offer(2, 4, 32, 0, 0, 0);
    x.offer(2, 6, 31, 0, 0, 0);
    due("put together", x.least(2), "0.0.0.4/30>0");
    x.offer(2, 0, 30, 0, 1, 0);
    due("side by side", x.least(2), "0.0.0.0/29>0 0.0.0.0/30>1");
    x.offer(2, 0, 0, 0, 0, 0);
    due("under all", x.least(2), "0.0.0.0/0>0 0.0.0.0/30>1");
    x.offer(3, 0, 0, 0, 3, 0);
    x.offer(3, 0, 1, 0, NONE, 0);
    due("a hole is needed or not", x.least(3), "128.0.0.0/1>3");
    x.offer(3, 0, 2, 0, 3, 0);
    due("a hole", x.least(3), "0.0.0.0/0>3 64.0.0.0/2>-1");
    due("asking changes nothing", x.text(3), "0.0.0.0/0>3 0.0.0.0/1>-1 0.0.0.0/2>3");
    index(x, "leastSize at 4", () -> x.leastSize(4));
    index(x, "leastSize at -1", () -> x.leastSize(-1));
    index(x, "least at 4", () -> x.least(4));
    index(x, "least at -1", () -> x.least(-1));
  }

  private static void alikePartingDiffer() {
    about("Promises 32 to 34");
    Routetable x = sample();
    due("itself", x.alike(0, 0), true);
    due("itself", x.parting(0, 0), -1L);
    due("itself", x.differ(0, 0), 0L);
    due("both empty", x.alike(2, 3), true);
    due("not alike", x.alike(0, 1), false);
    due("from the first on", x.parting(0, 1), 0L);
    due("but the hole", x.differ(0, 1), ALL - 1);
    x.offer(1, 0, 1, 2, 1, 9);
    x.offer(1, -1, 1, 2, 1, 9);
    x.offer(1, ip(10, 0, 0, 0), 9, 1, 3, 4);
    x.offer(1, ip(10, 128, 0, 0), 9, 1, 3, 4);
    x.offer(1, ip(10, 64, 0, 0), 10, 3, 2, 0);
    due("but for one address", x.alike(0, 1), false);
    due("that one", x.parting(1, 0), 171966464L);
    due("one", x.differ(1, 0), 1L);
    x.offer(1, ip(10, 64, 0, 0), 32, 3, NONE, 0);
    due("other prefixes, the same ways", x.alike(0, 1), true);
    due("none", x.parting(0, 1), -1L);
    due("none", x.differ(0, 1), 0L);
    x.offer(0, -1, 32, 0, 0, 0);
    due("the last address", x.parting(0, 1), ALL - 1);
    due("the last address", x.differ(0, 1), 1L);
    int[][] wrongs = {{4, 0}, {-1, 0}, {0, 4}, {0, -1}};
    for (int[] pair : wrongs) {
      index(x, "alike", () -> x.alike(pair[0], pair[1]));
      index(x, "parting", () -> x.parting(pair[0], pair[1]));
      index(x, "differ", () -> x.differ(pair[0], pair[1]));
    }
  }

  private static void linkOf() {
    about("Promise 35");
    Routetable x = new Routetable();
    for (int to = -1; to <= 4; to++) {
      x.link(3, 2, to);
      due("linkOf", x.linkOf(3, 2), to);
    }
    index(x, "router 4", () -> x.linkOf(4, 6));
    index(x, "router -1", () -> x.linkOf(-1, 0));
    argument(x, "way 6", () -> x.linkOf(0, 6));
    argument(x, "way -1", () -> x.linkOf(0, -1));
  }

  private static void traceAndFate() {
    about("Promises 36 and 37");
    Routetable x = chain();
    due("out", x.trace(0, 0), "0>1>2>3>out");
    due("out", x.fate(0, 0), 0);
    due("at once", x.trace(3, 0), "3>out");
    due("a hole", x.trace(0, ip(20, 0, 0, 0)), "0>1>2>dead");
    due("a hole", x.fate(0, ip(20, 0, 0, 0)), 1);
    due("round", x.trace(0, ip(10, 0, 0, 0)), "0>1>2>3>1");
    due("round", x.fate(0, ip(10, 0, 0, 0)), 2);
    due("round to the start", x.trace(2, ip(10, 0, 0, 0)), "2>3>1>2");
    x.link(0, 0, 0);
    due("to itself", x.trace(0, 0), "0>0");
    due("to itself", x.fate(0, 0), 2);
    x.link(0, 0, -1);
    due("nowhere", x.trace(0, 0), "0>dead");
    x.clear(1);
    due("no prefix", x.trace(1, 0), "1>dead");
    due("no prefix", x.fate(1, 0), 1);
    index(x, "trace from 4", () -> x.trace(4, 0));
    index(x, "trace from -1", () -> x.trace(-1, 0));
    index(x, "fate from 4", () -> x.fate(4, 0));
    index(x, "fate from -1", () -> x.fate(-1, 0));
  }

  private static void reachAndFirstOf() {
    about("Promises 38 and 39");
    Routetable x = chain();
    due("arrive", x.reach(0, 0), ALL - (2L << 24));
    due("die", x.reach(0, 1), 1L << 24);
    due("go round", x.reach(0, 2), 1L << 24);
    due("first to arrive", x.firstOf(0, 0), 0L);
    due("first to die", x.firstOf(0, 1), 20L << 24);
    due("first to go round", x.firstOf(0, 2), 10L << 24);
    due("from 3 none dies", x.firstOf(3, 1), -1L);
    x.withdraw(2, ip(20, 0, 0, 0), 8, 0);
    due("none dies", x.firstOf(0, 1), -1L);
    due("none dies", x.reach(0, 1), 0L);
    x.link(0, 0, -1);
    due("all die", x.reach(0, 1), ALL);
    due("all die", x.firstOf(0, 1), 0L);
    x.offer(0, -1, 32, 0, 4, 0);
    x.link(0, 4, 4);
    due("the last address", x.reach(0, 0), 1L);
    due("the last address", x.firstOf(0, 0), ALL - 1);
    index(x, "reach from 4", () -> x.reach(4, 3));
    index(x, "reach from -1", () -> x.reach(-1, 0));
    argument(x, "reach 3", () -> x.reach(0, 3));
    argument(x, "reach -1", () -> x.reach(0, -1));
    index(x, "firstOf from 4", () -> x.firstOf(4, 3));
    index(x, "firstOf from -1", () -> x.firstOf(-1, 0));
    argument(x, "firstOf 3", () -> x.firstOf(0, 3));
    argument(x, "firstOf -1", () -> x.firstOf(0, -1));
  }

  private static void recentAndBooks() {
    about("Promises 40 and 41");
    Routetable x = new Routetable();
    due("none", x.recent(0), "none");
    due("none", x.recent(7), "none");
    for (int i = 0; i < 10; i++) {
      x.offer(0, ip(i, 0, 0, 0), 8, 0, 0, 0);
      x.send(0, ip(i, 1, 2, 3), 1);
      due("how many", x.books(0), Math.min(i + 1, 8));
    }
    for (int place = 0; place < 8; place++) {
      due("the last eight, the oldest first", x.recent(place), (place + 2) + ".0.0.0/8");
    }
    x.send(0, -1, 9);
    x.send(3, 0, 9);
    due("lost", x.books(1), 2);
    due("recent stays", x.recent(7), "9.0.0.0/8");
    x.clear(0);
    due("recent stays", x.recent(0), "2.0.0.0/8");
    x.knock();
    due("knocks", x.books(2), 1);
    argument(x, "recent 8", () -> x.recent(8));
    argument(x, "recent -1", () -> x.recent(-1));
    argument(x, "books 3", () -> x.books(3));
    argument(x, "books -1", () -> x.books(-1));
  }

  private static void isSound() {
    about("Promise 42");
    due("at first", new Routetable().isSound(), true);
    due("the sample", sample().isSound(), true);
    due("the chain", chain().isSound(), true);
    Routetable x = chain();
    for (int i = 0; i < 11; i++) {
      x.offer(1, ip(200, 3 * i, 0, 0), 15 + i, i % 4, i % 6, i);
    }
    due("a full table", x.isSound(), true);
    x.leave(1, 2);
    due("after a leave", x.isSound(), true);
    x.shrink(1);
    due("after a shrink", x.isSound(), true);
  }

  /** The checksum as the document tells it, from what the calls answer. */
  private static long checksum(Routetable x) {
    long d = 5301;
    for (int router = 0; router < 4; router++) {
      for (int what = 0; what <= 5; what++) {
        d = d * 31 + x.table(router, what);
      }
      d = d * 31 + x.ranges(router);
      for (int i = 0; i < x.ranges(router); i++) {
        d = d * 31 + x.range(router, i, 0);
        d = d * 31 + x.range(router, i, 2);
        d = d * 31 + x.range(router, i, 3);
      }
      for (int way = -1; way <= 5; way++) {
        d = d * 31 + x.share(router, way);
      }
      d = d * 31 + x.leastSize(router);
      d = d * 31 + x.text(router).length();
      d = d * 31 + x.rangesText(router).length();
      d = d * 31 + x.least(router).length();
      for (int way = 0; way <= 5; way++) {
        d = d * 31 + x.linkOf(router, way);
      }
      for (int fate = 0; fate <= 2; fate++) {
        d = d * 31 + x.reach(router, fate);
      }
      for (int fate = 0; fate <= 2; fate++) {
        d = d * 31 + x.firstOf(router, fate);
      }
      d = d * 31 + x.lengthFrom(router, 32, true);
      d = d * 31 + x.lengthFrom(router, 0, false);
    }
    for (int router = 0; router < 4; router++) {
      for (int other = router + 1; other < 4; other++) {
        d = d * 31 + x.differ(router, other);
        d = d * 31 + x.parting(router, other);
      }
    }
    for (int place = 0; place <= 7; place++) {
      d = d * 31 + x.recent(place).length();
    }
    for (int what = 0; what <= 2; what++) {
      d = d * 31 + x.books(what);
    }
    return d * 31 + (x.isSound() ? 1 : 0);
  }

  /** A new object's values are few, so they stand here, and numbers without bounds take them. */
  private static void digestWrapsAround() {
    says("which wraps around as a 64-bit integer");
    List<Long> values = new ArrayList<>();
    for (int router = 0; router < 4; router++) {
      values.addAll(List.of(0L, 0L, 0L, 0L, 0L, 0L, 1L, 0L, -1L, ALL, ALL, 0L, 0L, 0L, 0L, 0L, 0L));
      values.addAll(List.of(0L, 0L, 10L, 0L, -1L, -1L, -1L, -1L, -1L, -1L, 0L, ALL, 0L, -1L, 0L, -1L, -1L, -1L));
    }
    for (int pair = 0; pair < 6; pair++) {
      values.addAll(List.of(0L, -1L));
    }
    values.addAll(List.of(4L, 4L, 4L, 4L, 4L, 4L, 4L, 4L, 0L, 0L, 0L, 1L));
    BigInteger d = BigInteger.valueOf(5301);
    for (long value : values) {
      d = d.multiply(BigInteger.valueOf(31)).add(BigInteger.valueOf(value));
    }
    due("of a new object", new Routetable().digest(), d.longValue());
  }

  private static void digest() {
    about("Promise 43");
    Routetable x = new Routetable();
    due("at first", x.digest(), -3639223973737891856L);
    Routetable y = chain();
    y.send(0, ip(10, 0, 0, 0), 9);
    y.knock();
    flap(y, 2, 0, 4, 1, 3);
    due("the chain", y.digest(), checksum(y));
    due("the sample", sample().digest(), checksum(sample()));
    Routetable z = new Routetable();
    z.offer(0, TEN, 8, 0, 3, 0);
    z.offer(0, -1, 24, 0, 2, 0);
    due("without a prefix of the length 0", z.digest(), checksum(z));
    due("asking changes nothing", y.digest(), checksum(y));
  }
}
