/** The document's sentences on least tables (part 4), and promises 8, 30 and 31. */
public final class LeastTablesTest extends Checks {
  public static void main(String[] args) {
    justThatWay();
    inCommon();
    allThatIsInEither();
    halvesToTheEnd();
    inheritsNone();
    inherited();
    smallestOfTheSet();
    noneIsSmallest();
    goneOn();
    notMoreThanLive();
    least();
    shrinkTakesAll();
    shrinkMakesOffers();
    shrinkWithdrawsNothing();
    shrinkMakesRoom();
    shrinkAnswers();
    shrinkTwice();
    end();
  }

  private static void justThatWay() {
    says("SET of a PREFIX: if all ADDRESSES in it have one WAY (or NONE), just that.");
    Routetable x = new Routetable();
    due("none", x.least(0), "");
    x.offer(0, 0, 0, 0, 0, 0);
    due("the smallest way for all", x.least(0), "0.0.0.0/0>0");
    x.offer(0, TEN, 8, 0, 0, 0);
    x.offer(0, -1, 32, 0, 0, 0);
    due("prefixes of one way", x.least(0), "0.0.0.0/0>0");
    x.offer(0, 0, 0, 0, NONE, 0);
    due("a hole round them", x.least(0), "10.0.0.0/8>0 255.255.255.255/32>0");
  }

  private static void inCommon() {
    says("it is what the SETS of both HALVES have in common");
    Routetable x = new Routetable();
    x.offer(0, 0, 1, 0, 1, 0);
    x.offer(0, -1, 1, 0, 2, 0);
    x.offer(0, -1, 2, 0, 1, 0);
    due("one in common", x.least(0), "0.0.0.0/0>1 128.0.0.0/2>2");
    int[] ways = {4, 3, 3, 5};
    for (int i = 0; i < 4; i++) {
      x.offer(1, i << 30, 2, 0, ways[i], 0);
    }
    due("of 3, 4 and 3, 5", x.least(1), "0.0.0.0/0>3 0.0.0.0/2>4 192.0.0.0/2>5");
    int[] more = {4, 3, 3, 4};
    for (int i = 0; i < 4; i++) {
      x.offer(2, i << 30, 2, 0, more[i], 0);
    }
    due("two in common, the smallest", x.least(2), "0.0.0.0/0>3 0.0.0.0/2>4 192.0.0.0/2>4");
  }

  private static void allThatIsInEither() {
    says("or, if that is nothing, all that is in either.");
    Routetable x = new Routetable();
    x.offer(0, 0, 1, 0, 4, 0);
    x.offer(0, -1, 1, 0, 2, 0);
    due("two ways", x.least(0), "0.0.0.0/0>2 0.0.0.0/1>4");
    int[] ways = {5, 4, 3, 2};
    for (int i = 0; i < 4; i++) {
      x.offer(1, i << 30, 2, 0, ways[i], 0);
    }
    due("four ways", x.least(1), "0.0.0.0/0>2 0.0.0.0/1>4 0.0.0.0/2>5 128.0.0.0/2>3");
    x.offer(2, 0, 1, 0, 5, 0);
    due("a way and none: nothing for all", x.least(2), "0.0.0.0/1>5");
  }

  private static void halvesToTheEnd() {
    says("Otherwise it has two HALVES (the PREFIXES of a LENGTH greater by 1 in it)");
    Routetable x = new Routetable();
    x.offer(0, 0, 32, 0, 1, 0);
    due("the first address", x.least(0), "0.0.0.0/32>1");
    x.offer(1, -1, 32, 0, 1, 0);
    due("the last address", x.least(1), "255.255.255.255/32>1");
    x.offer(1, -2, 32, 0, 1, 0);
    due("the last two", x.least(1), "255.255.255.254/31>1");
    x.offer(2, 1, 32, 0, 1, 0);
    x.offer(2, 2, 32, 0, 1, 0);
    due("neighbours that are no halves of one", x.least(2), "0.0.0.1/32>1 0.0.0.2/32>1");
    x.offer(3, 0, 0, 0, 0, 0);
    x.offer(3, -1, 32, 0, 1, 0);
    due("the last address of a way for all", x.least(3), "0.0.0.0/0>0 255.255.255.255/32>1");
  }

  private static void inheritsNone() {
    says("The LEAST TABLE of a ROUTER is made from the PREFIX of LENGTH 0 on, which inherits NONE");
    Routetable x = new Routetable();
    x.offer(0, 0, 0, 0, NONE, 0);
    x.offer(0, TEN, 8, 0, NONE, 0);
    due("holes alone need nothing", x.least(0), "");
    due("size", x.leastSize(0), 0);
    x.offer(0, -1, 2, 0, 3, 0);
    due("none for three quarters", x.least(0), "192.0.0.0/2>3");
    x.offer(1, 0, 0, 0, 3, 0);
    due("a way for all", x.least(1), "0.0.0.0/0>3");
    x.offer(1, -1, 32, 0, NONE, 0);
    due("but one address", x.least(1), "0.0.0.0/0>3 255.255.255.255/32>-1");
    x.offer(2, 0, 0, 0, 3, 0);
    x.offer(2, 0, 1, 0, NONE, 0);
    due("none is in the set of all", x.least(2), "128.0.0.0/1>3");
  }

  private static void inherited() {
    says("if what a PREFIX inherits is in its SET, its HALVES inherit that as well");
    Routetable x = new Routetable();
    x.offer(0, 0, 0, 0, 3, 0);
    x.offer(0, 0, 3, 0, 1, 0);
    x.offer(0, -1, 2, 0, 3, 0);
    x.offer(0, -1, 4, 0, 1, 0);
    due("3 is inherited, though 1 is smaller", x.least(0), "0.0.0.0/0>3 0.0.0.0/3>1 240.0.0.0/4>1");
    x.offer(1, 0, 1, 0, 0, 0);
    x.offer(1, -1, 1, 0, 5, 0);
    x.offer(1, -1, 2, 0, 0, 0);
    due("0 for all is inherited by the last quarter", x.least(1), "0.0.0.0/0>0 128.0.0.0/2>5");
  }

  private static void smallestOfTheSet() {
    says("otherwise it comes into the LEAST TABLE with the smallest one of its SET");
    Routetable x = new Routetable();
    x.offer(0, 0, 1, 0, 5, 0);
    x.offer(0, -1, 1, 0, 0, 0);
    due("0, not 5", x.least(0), "0.0.0.0/0>0 0.0.0.0/1>5");
    x.offer(1, TEN, 9, 0, 4, 0);
    x.offer(1, ip(10, 128, 0, 0), 9, 0, 3, 0);
    due("3, not 4", x.least(1), "10.0.0.0/8>3 10.0.0.0/9>4");
  }

  /** The lower half is 1, NONE and 0; the upper one is 1. */
  private static void noneIsSmallest() {
    says("(NONE is smaller than 0), and its HALVES inherit this.");
    Routetable x = new Routetable();
    x.offer(0, 0, 0, 0, 1, 0);
    x.offer(0, ip(64, 0, 0, 0), 3, 0, NONE, 0);
    x.offer(0, ip(96, 0, 0, 0), 3, 0, 0, 0);
    due("a hole for two", x.least(0), "0.0.0.0/0>1 64.0.0.0/2>-1 96.0.0.0/3>0");
    due("three", x.leastSize(0), 3);
    due("sound", x.isSound(), true);
  }

  private static void goneOn() {
    says("The HALVES are gone on with, if not all ADDRESSES of the PREFIX have one WAY.");
    Routetable x = new Routetable();
    int[] lengths = {0, 1, 5, 12, 20, 31, 32};
    StringBuilder want = new StringBuilder();
    for (int i = 0; i < lengths.length; i++) {
      x.offer(0, 0, lengths[i], 0, i % 6, 0);
      want.append(i > 0 ? " " : "").append("0.0.0.0/").append(lengths[i]).append('>').append(i % 6);
    }
    due("nothing to leave out but the pair", x.least(0),
        want.toString().replace("0.0.0.0/31>5 0.0.0.0/32>0", "0.0.0.0/31>0 0.0.0.1/32>5"));
    x.offer(1, -1, 32, 0, 2, 0);
    x.offer(1, -1, 31, 0, 1, 0);
    due("at the other end", x.least(1), "255.255.255.254/31>1 255.255.255.255/32>2");
  }

  private static void notMoreThanLive() {
    says("Returns how many PREFIXES the LEAST TABLE has.");
    Routetable x = new Routetable();
    due("none", x.leastSize(0), 0);
    for (int i = 0; i < 12; i++) {
      x.offer(0, ip(85, 85, 85, 85), 3 + 2 * i, 0, i % 6, 0);
      x.offer(1, i * 16 + 8, 32, 0, i % 6, 0);
      x.offer(2, i << 28, 4, 0, i % 2, 0);
    }
    due("twelve in one another", x.leastSize(0), 12);
    due("twelve apart", x.leastSize(1), 12);
    due("twelve in turn", x.leastSize(2), 8);
    due("their text", x.least(2), "0.0.0.0/0>0 16.0.0.0/4>1 48.0.0.0/4>1 80.0.0.0/4>1 112.0.0.0/4>1 144.0.0.0/4>1 "
        + "176.0.0.0/4>1 192.0.0.0/2>-1");
    x.offer(3, 0, 0, 0, 2, 0);
    for (int i = 0; i < 11; i++) {
      x.offer(3, ip(85, 85, 85, 85), 3 + 2 * i, 0, i % 2 == 0 ? NONE : 2, 0);
    }
    due("holes in one another", x.leastSize(3), 12);
    due("sound", x.isSound(), true);
  }

  private static void least() {
    says("Returns PREFIX by PREFIX of the LEAST TABLE, in their order, its text, \">\" and its WAY, with a blank between two "
        + "(\"\" without any).");
    Routetable x = new Routetable();
    due("without any", x.least(0), "");
    x.offer(0, -1, 8, 0, 2, 0);
    due("one, no blank", x.least(0), "255.0.0.0/8>2");
    x.offer(0, LOWEST, 1, 0, 1, 0);
    due("rising", x.least(0), "128.0.0.0/1>1 255.0.0.0/8>2");
    due("asking shrinks nothing", x.table(0, 2), 2);
  }

  private static void shrinkTakesAll() {
    says("To SHRINK a ROUTER: its TABLE becomes its LEAST TABLE: all its PREFIXES, OFFERS, HITS and PENALTIES go");
    Routetable x = sample();
    x.offer(0, TEN, 8, 3, 3, 50);
    x.send(0, TEN, 1);
    flap(x, 0, ip(10, 64, 0, 0), 10, 2, 3);
    flap(x, 0, TWENTY, 8, 2, 1);
    x.offer(0, ip(30, 0, 0, 0), 8, 1, 1, 0);
    due("one goes", x.shrink(0), 4);
    due("the prefix that said what was said", x.offers(0, ip(30, 0, 0, 0), 8), 0);
    due("the other owner's offer", x.ofOffer(0, TEN, 8, 3, 0), REFUSED);
    due("hits of one that stays", x.hits(0, TEN, 8), 0);
    due("a penalty in the table", x.penalty(0, ip(10, 64, 0, 0), 10, 2), 0);
    due("a penalty outside of it", x.penalty(0, TWENTY, 8, 2), 0);
    due("all", x.table(0, 4) + x.table(0, 5), 0);
    flap(x, 1, TEN, 8, 0, 2);
    x.offer(1, TEN, 8, 0, 3, 0);
    due("a damped one", x.shrink(1), 0);
    due("goes for good", x.table(1, 0) + x.penalty(1, TEN, 8, 0), 0);
  }

  private static void shrinkMakesOffers() {
    says("each PREFIX of the LEAST TABLE has one OFFER then, by the OWNER 0 with the COST 0.");
    Routetable x = new Routetable();
    x.offer(0, 0, 0, 3, 1, 99);
    x.offer(0, TEN, 8, 2, NONE, 98);
    due("two", x.shrink(0), 2);
    due("one each", x.table(0, 2), 2);
    due("way", x.ofOffer(0, 0, 0, 0, 0), 1);
    due("cost", x.ofOffer(0, 0, 0, 0, 1), 0);
    due("not damped", x.ofOffer(0, 0, 0, 0, 2), 0);
    due("a hole", x.ofOffer(0, TEN, 8, 0, 0), NONE);
    due("its cost", x.ofOffer(0, TEN, 8, 0, 1), 0);
    due("the owner before", x.ofOffer(0, TEN, 8, 2, 0), REFUSED);
    due("chosen", x.chosen(0, TEN, 8), 0);
    due("the owner 0 leaves", x.leave(0, 0), 2);
  }

  private static void shrinkWithdrawsNothing() {
    says("(Nothing is withdrawn by that, no PENALTY grows.)");
    Routetable x = sample();
    x.offer(1, TEN, 8, 0, 1, 1);
    flap(x, 1, TEN, 8, 0, 1);
    x.shrink(0);
    due("no penalty", x.table(0, 5), 0);
    due("of the owner 0", x.penalty(0, TEN, 8, 0), 0);
    due("another router's stays", x.penalty(1, TEN, 8, 0), 1000);
    due("so one withdrawal does not damp", x.withdraw(0, TEN, 8, 0), true);
    x.offer(0, TEN, 8, 0, 3, 0);
    due("way", x.way(0, TEN), 3);
  }

  private static void shrinkMakesRoom() {
    about("shrink of a full table");
    Routetable x = new Routetable();
    for (int i = 0; i < 12; i++) {
      x.offer(0, ip(10, 0, 0, i), 32, 3, 1, 1);
    }
    due("twelve to two", x.shrink(0), 2);
    due("text", x.text(0), "10.0.0.0/28>1 10.0.0.12/30>-1");
    for (int i = 0; i < 10; i++) {
      due("room for ten", x.offer(0, ip(20, 0, 0, 2 * i), 32, 3, 1, 1), 1);
    }
    state(x, "no more", () -> x.offer(0, ip(20, 0, 0, 20), 32, 3, 1, 1));
    due("twelve stay twelve", x.shrink(0), 12);
    state(x, "no more", () -> x.offer(0, ip(20, 0, 0, 20), 32, 3, 1, 1));
  }

  private static void shrinkAnswers() {
    says("Returns how many PREFIXES are in the TABLE then.");
    Routetable x = new Routetable();
    due("an empty one", x.shrink(2), 0);
    x.offer(2, 0, 0, 1, NONE, 0);
    due("a hole", x.shrink(2), 0);
    due("it is gone", x.table(2, 0), 0);
    x.offer(2, 0, 0, 1, 0, 0);
    due("a way", x.shrink(2), 1);
  }

  private static void shrinkTwice() {
    about("a table that was shrunk is its own least table");
    Routetable x = sample();
    x.offer(0, ip(10, 64, 0, 2), 31, 1, 5, 0);
    x.offer(0, ip(10, 64, 0, 1), 32, 1, 5, 0);
    String ranges = x.rangesText(0);
    String least = x.least(0);
    int size = x.shrink(0);
    due("text", x.text(0), least);
    due("ranges stay", x.rangesText(0), ranges);
    due("again", x.shrink(0), size);
    due("text", x.text(0), least);
  }
}
