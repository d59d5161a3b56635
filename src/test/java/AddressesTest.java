/** The document's sentences on addresses and prefixes (part 1), on calls in general, and promise 15. */
public final class AddressesTest extends Checks {
  private static final int[] SOME = {0, TEN, ip(10, 64, 0, 0), TWENTY, ip(30, 0, 0, 0), -1};
  private static final int[] LENGTHS = {0, 8, 10, 32};

  public static void main(String[] args) {
    fiveHundredAndTwelveCalls();
    askingChangesNothing();
    numbers();
    orderOfAddresses();
    textOfAnAddress();
    eachLength();
    toldByAnyAddress();
    itsOwnAddress();
    textOfAPrefix();
    orderOfPrefixes();
    objectsAreApart();
    end();
  }

  /** 39 times twelve prefixes that come and leave, so that 468 penalties have to be kept. */
  private static void fiveHundredAndTwelveCalls() {
    says("An object is used for at most 512 calls after it has been made");
    Routetable x = new Routetable();
    for (int round = 0; round < 39; round++) {
      for (int i = 0; i < 12; i++) {
        x.offer(2, ip(round, i, 0, 0), 16 + i, 3, 1, 1);
      }
      due("leave in round " + round, x.leave(2, 3), 12);
    }
    due("call 508", x.table(2, 5), 468);
    due("call 509", x.penalty(2, ip(0, 0, 0, 0), 16, 3), 1000);
    due("call 510", x.penalty(2, ip(38, 11, 0, 0), 27, 3), 1000);
    due("call 511", x.minute(), 468);
    due("call 512", x.offer(2, ip(99, 0, 0, 0), 8, 3, 1, 1), 1);
  }

  private static void askingChangesNothing() {
    says("What one asks for changes nothing.");
    Routetable x = chain();
    x.send(0, TEN, 9);
    x.send(0, TWENTY, 9);
    flap(x, 3, ip(30, 0, 0, 0), 8, 1, 3);
    flap(x, 3, -1, 32, 2, 2);
    x.offer(3, -1, 32, 2, 1, 1);
    String before = picture(x, SOME, LENGTHS);
    for (int router = 0; router < 4; router++) {
      askOfRouter(x, router, before);
    }
    due("dotted", x.dotted(TEN) + picture(x, SOME, LENGTHS), "10.0.0.0" + before);
    due("isSound", x.isSound() + picture(x, SOME, LENGTHS), "true" + before);
    due("knocks of asking", x.books(2), 0);
  }

  private static void askOfRouter(Routetable x, int router, String before) {
    for (int address : SOME) {
      x.way(router, address);
      x.length(router, address);
      x.best(router, address);
      x.without(router, address, 8, address);
      x.chosen(router, address, 8);
      x.offers(router, address, 8);
      x.window(router, 0, address);
      x.edge(router, 0, address, true);
      x.fate(router, address);
      due("questions about an address", picture(x, SOME, LENGTHS), before);
    }
    x.alike(router, 0);
    x.parting(router, 0);
    x.differ(router, 0);
    x.leastSize(router);
    x.range(router, 0, 3);
    x.share(router, 1);
    x.reach(router, 0);
    x.firstOf(router, 2);
    due("questions about a router", picture(x, SOME, LENGTHS), before);
  }

  private static void numbers() {
    says("its NUMBER is that without a sign, 0 to 4294967295 (of the int -1: 4294967295)");
    Routetable x = new Routetable();
    due("the least", x.range(0, 0, 0), 0L);
    due("the greatest", x.range(0, 0, 1), 4294967295L);
    x.offer(0, -1, 32, 0, 1, 0);
    due("of -1", x.range(0, 1, 0), 4294967295L);
    x.offer(0, LOWEST, 32, 0, 2, 0);
    due("of the lowest int", x.range(0, 1, 0), 2147483648L);
    due("of the one before", x.range(0, 0, 1), 2147483647L);
    x.offer(0, 0, 32, 0, 3, 0);
    due("of 0", x.edge(0, 0, 0, true), 0L);
  }

  private static void orderOfAddresses() {
    says("ADDRESSES are ordered by their NUMBERS.");
    Routetable x = new Routetable();
    x.offer(0, LOWEST, 32, 0, 2, 0);
    x.offer(0, HIGHEST, 32, 0, 1, 0);
    due("ranges", x.rangesText(0), "0.0.0.0>-1 127.255.255.255>1 128.0.0.0>2 128.0.0.1>-1");
    due("the first that parts", x.parting(0, 1), 2147483647L);
    due("the last begin", x.edge(0, 0, -1, true), 2147483649L);
    x.link(0, 1, 4);
    x.link(0, 2, 4);
    due("the first to arrive", x.firstOf(0, 0), 2147483647L);
  }

  private static void textOfAnAddress() {
    says("its four bytes, the highest first, as numbers 0 to 255 with \".\" between two (\"10.0.0.255\")");
    Routetable x = new Routetable();
    due("of the document", x.dotted(ip(10, 0, 0, 255)), "10.0.0.255");
    due("all 0", x.dotted(0), "0.0.0.0");
    due("all 255", x.dotted(-1), "255.255.255.255");
    due("a high byte", x.dotted(255 << 24), "255.0.0.0");
    due("a second one", x.dotted(255 << 16), "0.255.0.0");
    due("a third one", x.dotted(255 << 8), "0.0.255.0");
    due("a low one", x.dotted(255), "0.0.0.255");
    due("the lowest int", x.dotted(LOWEST), "128.0.0.0");
    due("the highest int", x.dotted(HIGHEST), "127.255.255.255");
    due("no zeros ahead", x.dotted(ip(1, 20, 3, 100)), "1.20.3.100");
  }

  private static void eachLength() {
    says("A PREFIX is an ADDRESS and a LENGTH (0 to 32): all ADDRESSES whose first LENGTH bits (the highest ones) are "
        + "those of that ADDRESS lie in it.");
    for (int length = 0; length <= 32; length++) {
      for (int address : new int[] {ip(170, 170, 170, 170), 0, -1}) {
        Routetable x = new Routetable();
        x.offer(0, address, length, 0, 4, 0);
        long size = ALL >> length;
        long first = Integer.toUnsignedLong(address) / size * size;
        due("share of the length " + length, x.share(0, 4), size);
        due("the first in it", x.way(0, (int) first), 4);
        due("the last in it", x.way(0, (int) (first + size - 1)), 4);
        due("the one before", x.way(0, (int) first - 1), length == 0 ? 4 : NONE);
        due("the one behind", x.way(0, (int) (first + size)), length == 0 ? 4 : NONE);
      }
    }
  }

  private static void toldByAnyAddress() {
    says("It is told by any ADDRESS that lies in it");
    Routetable x = new Routetable();
    int last = ip(10, 255, 255, 255);
    due("offer", x.offer(0, last, 8, 0, 2, 7), 1);
    due("offer again", x.offer(0, TEN, 8, 1, 2, 7), 2);
    x.send(0, TEN, 1);
    for (int told : new int[] {TEN, last, ip(10, 128, 0, 1)}) {
      due("offers", x.offers(0, told, 8), 2);
      due("ofOffer", x.ofOffer(0, told, 8, 0, 1), 7);
      due("chosen", x.chosen(0, told, 8), 0);
      due("hits", x.hits(0, told, 8), 1);
      due("without", x.without(0, told, 8, TEN), NONE);
    }
    for (int outside : new int[] {TEN - 1, last + 1}) {
      due("offers outside", x.offers(0, outside, 8), 0);
      due("withdraw outside", x.withdraw(0, outside, 8, 0), false);
      due("without outside", x.without(0, outside, 8, TEN), 2);
    }
    due("withdraw", x.withdraw(0, ip(10, 77, 0, 0), 8, 0), true);
    due("penalty", x.penalty(0, last, 8, 0), 1000);
    due("penalty outside", x.penalty(0, last + 1, 8, 0), 0);
  }

  private static void itsOwnAddress() {
    says("its own ADDRESS is the least of these (all other bits 0).");
    String[] wants = {"0.0.0.0/0", "128.0.0.0/1", "255.224.0.0/11", "255.255.255.254/31", "255.255.255.255/32"};
    int[] lengths = {0, 1, 11, 31, 32};
    for (int i = 0; i < lengths.length; i++) {
      Routetable x = new Routetable();
      x.offer(0, -1, lengths[i], 0, 0, 0);
      due("of the last address", x.text(0), wants[i] + ">0");
      due("best", x.best(0, -1), wants[i]);
    }
  }

  private static void textOfAPrefix() {
    says("Text: that of its ADDRESS, \"/\", the LENGTH (\"10.0.0.0/8\").");
    Routetable x = new Routetable();
    x.offer(0, TEN, 8, 0, 5, 0);
    due("best", x.best(0, TEN), "10.0.0.0/8");
    x.send(0, TEN, 1);
    due("recent", x.recent(0), "10.0.0.0/8");
    due("text", x.text(0), "10.0.0.0/8>5");
    due("least", x.least(0), "10.0.0.0/8>5");
  }

  private static void orderOfPrefixes() {
    says("PREFIXES are ordered by their ADDRESSES, then by LENGTH, the smaller first.");
    Routetable x = new Routetable();
    x.offer(0, -1, 32, 0, 4, 0);
    x.offer(0, LOWEST, 9, 0, 3, 0);
    x.offer(0, LOWEST, 1, 0, 2, 0);
    x.offer(0, 0, 32, 0, 1, 0);
    x.offer(0, HIGHEST, 32, 0, 4, 0);
    x.offer(0, 0, 0, 0, 0, 0);
    due("text", x.text(0), "0.0.0.0/0>0 0.0.0.0/32>1 127.255.255.255/32>4 128.0.0.0/1>2 128.0.0.0/9>3 "
        + "255.255.255.255/32>4");
    due("least", x.least(0), x.text(0));
  }

  private static void objectsAreApart() {
    says("Creates four routers without prefixes and links.");
    Routetable x = new Routetable();
    long first = x.digest();
    for (int router = 0; router < 4; router++) {
      x.offer(router, TEN, 8, router, 1, 1);
      x.link(router, 1, router);
      x.send(router, TEN, 2);
      x.send(router, TWENTY, 2);
    }
    x.knock();
    due("another object", new Routetable().digest(), first);
    due("this one is another one now", x.digest() == first, false);
    due("picture", picture(new Routetable(), SOME, LENGTHS).equals(picture(x, SOME, LENGTHS)), false);
  }
}
