/** The document's sentences on tables (part 2), and promises 2 to 5 and 9. */
public final class TablesTest extends Checks {
  public static void main(String[] args) {
    fourRouters();
    twelvePrefixes();
    extremesOfAnOffer();
    fourOwners();
    aHoleIsNone();
    oneOfferOfEachOwner();
    inTheTable();
    howManyOffers();
    penaltyAtFirst();
    penaltyGrows();
    fourThousandAtMost();
    replacingIsNotWithdrawing();
    penaltyStays();
    halves();
    belowOneHundred();
    damped();
    dampedAsLongAs();
    live();
    chosenByCost();
    chosenByOwner();
    notLiveIsNotThere();
    greatestLength();
    noneWithoutOne();
    hitsSinceItCame();
    noOfferToWithdraw();
    leaves();
    minutes();
    clears();
    end();
  }

  private static void fourRouters() {
    says("There are four ROUTERS, 0 to 3, each with a TABLE of at most 12 PREFIXES, none at first.");
    Routetable x = new Routetable();
    for (int router = 0; router < 4; router++) {
      due("none at first", x.table(router, 0), 0);
      due("its own table", x.offer(router, TEN, 8, 0, router, 0), 1);
      due("its own way", x.way(router, TEN), router);
    }
    x.withdraw(2, TEN, 8, 0);
    due("the others stay", x.table(0, 0) + x.table(1, 0) + x.table(3, 0), 3);
    due("this one does not", x.table(2, 0), 0);
  }

  private static void twelvePrefixes() {
    says("`IllegalStateException` if the PREFIX is not in the TABLE, and there are 12");
    Routetable x = new Routetable();
    for (int router = 0; router < 4; router++) {
      int here = router;
      for (int i = 1; i <= 12; i++) {
        due("prefix " + i, x.offer(router, ip(i, 0, 0, 0), 8, i % 4, i % 6, i), 1);
        due("how many", x.table(router, 0), i);
      }
      state(x, "the thirteenth", () -> x.offer(here, ip(13, 0, 0, 0), 8, 0, 0, 0));
    }
    due("all are there", x.text(0), "1.0.0.0/8>1 2.0.0.0/8>2 3.0.0.0/8>3 4.0.0.0/8>4 5.0.0.0/8>5 6.0.0.0/8>0 "
        + "7.0.0.0/8>1 8.0.0.0/8>2 9.0.0.0/8>3 10.0.0.0/8>4 11.0.0.0/8>5 12.0.0.0/8>0");
  }

  private static void extremesOfAnOffer() {
    says("For a PREFIX in the TABLE each OWNER can have one OFFER: a WAY (or a HOLE) and a COST (0 to 99).");
    Routetable x = new Routetable();
    for (int owner : new int[] {0, 3}) {
      for (int way : new int[] {NONE, 0, 5}) {
        for (int cost : new int[] {0, 99}) {
          x.offer(3, TEN, 8, owner, way, cost);
          due("way", x.ofOffer(3, TEN, 8, owner, 0), way);
          due("cost", x.ofOffer(3, TEN, 8, owner, 1), cost);
        }
      }
    }
  }

  private static void fourOwners() {
    says("OWNERS are 0 to 3.");
    Routetable x = new Routetable();
    for (int owner = 0; owner <= 3; owner++) {
      due("offer", x.offer(0, TEN, 8, owner, owner, owner), owner + 1);
    }
    for (int owner : new int[] {-1, 4, LOWEST, HIGHEST}) {
      index(x, "offer", () -> x.offer(0, TEN, 8, owner, 1, 1));
      index(x, "withdraw", () -> x.withdraw(0, TEN, 8, owner));
      index(x, "leave", () -> x.leave(0, owner));
      index(x, "ofOffer", () -> x.ofOffer(0, TEN, 8, owner, 0));
      index(x, "penalty", () -> x.penalty(0, TEN, 8, owner));
    }
    for (int owner = 0; owner <= 3; owner++) {
      due("withdraw", x.withdraw(0, TEN, 8, owner), true);
    }
  }

  private static void aHoleIsNone() {
    says("WAYS are 0 to 5; a HOLE is the WAY NONE.");
    Routetable x = new Routetable();
    x.offer(0, 0, 0, 0, NONE, 0);
    due("way", x.way(0, 5), -1);
    due("it is live", x.table(0, 1), 1);
    due("best", x.best(0, 5), "0.0.0.0/0");
    due("length", x.length(0, 5), 0);
    due("chosen", x.chosen(0, 5, 0), 0);
    due("text", x.text(0), "0.0.0.0/0>-1");
  }

  private static void oneOfferOfEachOwner() {
    says("An OWNER tells an OFFER for a PREFIX; one that it had for it is gone.");
    Routetable x = new Routetable();
    x.offer(0, TEN, 8, 2, 1, 3);
    x.offer(0, TEN, 9, 2, 2, 3);
    due("replaced", x.offer(0, TEN, 8, 2, 4, 60), 1);
    due("its way", x.ofOffer(0, TEN, 8, 2, 0), 4);
    due("its cost", x.ofOffer(0, TEN, 8, 2, 1), 60);
    due("another prefix keeps its own", x.ofOffer(0, TEN, 9, 2, 0), 2);
    due("one withdrawal takes it", x.withdraw(0, TEN, 8, 2), true);
    due("the first does not come back", x.ofOffer(0, TEN, 8, 2, 0), REFUSED);
  }

  private static void inTheTable() {
    says("A PREFIX is in the TABLE as long as it has an OFFER.");
    Routetable x = new Routetable();
    for (int owner = 0; owner < 4; owner++) {
      x.offer(0, TEN, 8, owner, 1, 1);
    }
    for (int owner = 3; owner >= 0; owner--) {
      due("in the table", x.table(0, 0), 1);
      due("how many offers", x.offers(0, TEN, 8), owner + 1);
      due("hits are told", x.hits(0, TEN, 8), 0);
      x.withdraw(0, TEN, 8, owner);
    }
    due("not any more", x.table(0, 0), 0);
    due("no offers", x.offers(0, TEN, 8), 0);
    due("no hits", x.hits(0, TEN, 8), REFUSED);
    due("none chosen", x.chosen(0, TEN, 8), NONE);
  }

  private static void howManyOffers() {
    says("Returns how many OFFERS the PREFIX has then.");
    Routetable x = new Routetable();
    for (int owner = 3; owner >= 0; owner--) {
      due("with the owner " + owner, x.offer(0, TEN, 8, owner, 1, 1), 4 - owner);
    }
    due("replaced", x.offer(0, TEN, 8, 1, 1, 1), 4);
    flap(x, 0, TEN, 8, 2, 2);
    due("a damped one counts", x.offer(0, TEN, 8, 2, 1, 1), 4);
  }

  private static void penaltyAtFirst() {
    says("PENALTY of an OWNER for a PREFIX at a ROUTER: 0 at first");
    Routetable x = new Routetable();
    due("of a prefix that is not there", x.penalty(0, TEN, 8, 3), 0);
    x.offer(0, TEN, 8, 3, 1, 1);
    due("of a new offer", x.penalty(0, TEN, 8, 3), 0);
    x.withdraw(0, TEN, 8, 3);
    due("of another owner", x.penalty(0, TEN, 8, 2), 0);
    due("of another length", x.penalty(0, TEN, 9, 3), 0);
    due("at another router", x.penalty(1, TEN, 8, 3), 0);
    due("its own", x.penalty(0, TEN, 8, 3), 1000);
  }

  private static void penaltyGrows() {
    says("each time that this OWNER's OFFER is withdrawn (by withdraw() or leave(); to replace an OFFER is not to "
        + "withdraw it), it is 1000 more, 4000 at most.");
    Routetable x = new Routetable();
    x.offer(0, TEN, 8, 0, 1, 1);
    x.withdraw(0, TEN, 8, 0);
    due("withdraw", x.penalty(0, TEN, 8, 0), 1000);
    x.offer(0, TEN, 8, 0, 1, 1);
    x.leave(0, 0);
    due("leave", x.penalty(0, TEN, 8, 0), 2000);
    x.withdraw(0, TEN, 8, 0);
    x.leave(0, 0);
    due("nothing to withdraw", x.penalty(0, TEN, 8, 0), 2000);
  }

  private static void fourThousandAtMost() {
    about("4000 at most");
    Routetable x = new Routetable();
    play(x, "www");
    due("below it", x.penalty(0, TEN, 8, 1), 3000);
    play(x, "w");
    due("just it", x.penalty(0, TEN, 8, 1), 4000);
    play(x, "w");
    due("not above", x.penalty(0, TEN, 8, 1), 4000);
    play(x, "mmww");
    due("3000", x.penalty(0, TEN, 8, 1), 3000);
    play(x, "mww");
    due("3500", x.penalty(0, TEN, 8, 1), 3500);
    play(x, "w");
    due("not 4500", x.penalty(0, TEN, 8, 1), 4000);
    x.offer(0, TEN, 8, 1, 1, 1);
    x.leave(0, 1);
    due("nor by leave", x.penalty(0, TEN, 8, 1), 4000);
  }

  private static void replacingIsNotWithdrawing() {
    about("to replace an OFFER is not to withdraw it");
    Routetable x = new Routetable();
    for (int i = 0; i < 5; i++) {
      x.offer(0, TEN, 8, 0, i, i);
    }
    due("no penalty", x.penalty(0, TEN, 8, 0), 0);
    due("none at all", x.table(0, 5), 0);
  }

  private static void penaltyStays() {
    says("It stays, whether or not the PREFIX is in the TABLE.");
    Routetable x = new Routetable();
    play(x, "ww");
    due("not in the table", x.table(0, 0) * 10000 + x.penalty(0, TEN, 8, 1), 2000);
    x.offer(0, TEN, 8, 2, 0, 0);
    due("in it by another owner", x.penalty(0, TEN, 8, 1), 2000);
    x.offer(0, TEN, 8, 1, 0, 0);
    due("in it by this owner", x.penalty(0, TEN, 8, 1), 2000);
    x.leave(0, 2);
    due("the other one left", x.penalty(0, TEN, 8, 1), 2000);
  }

  private static void halves() {
    says("MINUTE: each PENALTY becomes half of it, divided towards 0");
    Routetable x = new Routetable();
    play(x, "wmmmw");
    due("125 and 1000", x.penalty(0, TEN, 8, 1), 1125);
    x.minute();
    due("562 and a half", x.penalty(0, TEN, 8, 1), 562);
    x.minute();
    due("281", x.penalty(0, TEN, 8, 1), 281);
    x.minute();
    due("140 and a half", x.penalty(0, TEN, 8, 1), 140);
  }

  private static void belowOneHundred() {
    says("one that is below 100 then becomes 0.");
    Routetable x = new Routetable();
    play(x, "wmwmwmmmwmwmmm");
    due("201", x.penalty(0, TEN, 8, 1), 201);
    due("it is counted", x.minute(), 1);
    due("100 stays", x.penalty(0, TEN, 8, 1), 100);
    due("50 is not counted", x.minute(), 0);
    due("50 becomes 0", x.penalty(0, TEN, 8, 1), 0);
    due("0 stays", x.minute() + x.penalty(0, TEN, 8, 1), 0);
    Routetable y = new Routetable();
    play(y, "wmwmmmwmwmmm");
    due("199", y.penalty(0, TEN, 8, 1), 199);
    due("99 is not counted", y.minute(), 0);
    due("99 becomes 0", y.penalty(0, TEN, 8, 1), 0);
    Routetable z = new Routetable();
    play(z, "wmmm");
    z.offer(0, TEN, 8, 1, 0, 0);
    due("62 in the table", z.minute() + z.penalty(0, TEN, 8, 1), 0);
    z.withdraw(0, TEN, 8, 1);
    due("from 0 on", z.penalty(0, TEN, 8, 1), 1000);
  }

  private static void damped() {
    says("An OFFER is DAMPED, as long as the PENALTY of its OWNER for its PREFIX is 1500 or more.");
    Routetable x = new Routetable();
    play(x, "wmw");
    due("1500", x.penalty(0, TEN, 8, 1), 1500);
    x.offer(0, TEN, 8, 1, 3, 1);
    due("is damped", x.ofOffer(0, TEN, 8, 1, 2), 1);
    due("goes no way", x.way(0, TEN), NONE);
    x.offer(0, TEN, 8, 2, 4, 9);
    due("not another owner", x.ofOffer(0, TEN, 8, 2, 2), 0);
    x.offer(0, TEN, 9, 1, 5, 9);
    due("not another prefix", x.ofOffer(0, TEN, 9, 1, 2), 0);
    x.offer(1, TEN, 8, 1, 3, 1);
    due("not another router", x.ofOffer(1, TEN, 8, 1, 2), 0);
    Routetable y = new Routetable();
    play(y, "wmwmwmwmwmwmwmwmwmmw");
    due("1499", y.penalty(0, TEN, 8, 1), 1499);
    y.offer(0, TEN, 8, 1, 3, 1);
    due("is not damped", y.ofOffer(0, TEN, 8, 1, 2), 0);
    due("goes its way", y.way(0, TEN), 3);
  }

  private static void dampedAsLongAs() {
    about("DAMPED, as long as");
    Routetable x = new Routetable();
    play(x, "wwww");
    x.offer(0, TEN, 8, 1, 3, 1);
    due("4000", x.ofOffer(0, TEN, 8, 1, 2) * 10 + x.way(0, TEN), 9);
    x.minute();
    due("2000", x.ofOffer(0, TEN, 8, 1, 2) * 10 + x.way(0, TEN), 9);
    x.minute();
    due("1000", x.ofOffer(0, TEN, 8, 1, 2) * 10 + x.way(0, TEN), 3);
    due("live again without a new offer", x.text(0), "10.0.0.0/8>3");
    x.offer(0, TEN, 8, 1, 4, 2);
    due("a new one is not damped either", x.way(0, TEN), 4);
  }

  private static void live() {
    says("A PREFIX is LIVE, if it has an OFFER that is not DAMPED");
    Routetable x = new Routetable();
    play(x, "ww");
    x.offer(0, TEN, 8, 1, 3, 0);
    due("only a damped one", x.table(0, 1), 0);
    due("but in the table", x.table(0, 0), 1);
    x.offer(0, TEN, 8, 3, 4, 99);
    due("one that is not", x.table(0, 1), 1);
    due("that one's way", x.way(0, TEN), 4);
    x.withdraw(0, TEN, 8, 3);
    due("it is gone", x.table(0, 1), 0);
  }

  private static void chosenByCost() {
    says("its CHOSEN OFFER is the one of these with the least COST");
    Routetable x = new Routetable();
    x.offer(0, TEN, 8, 0, 0, 99);
    due("the only one", x.chosen(0, TEN, 8), 0);
    x.offer(0, TEN, 8, 1, 1, 98);
    due("one less", x.chosen(0, TEN, 8), 1);
    x.offer(0, TEN, 8, 3, 3, 0);
    due("0", x.chosen(0, TEN, 8), 3);
    x.offer(0, TEN, 8, 2, NONE, 1);
    due("1 is more", x.chosen(0, TEN, 8), 3);
    due("its way", x.way(0, TEN), 3);
    flap(x, 0, TEN, 8, 3, 2);
    x.offer(0, TEN, 8, 3, 3, 0);
    due("damped", x.chosen(0, TEN, 8), 2);
    due("a hole", x.way(0, TEN), NONE);
  }

  private static void chosenByOwner() {
    says("of several that of the smallest OWNER, and its WAY the WAY of that.");
    Routetable x = new Routetable();
    for (int owner = 3; owner >= 0; owner--) {
      x.offer(0, TEN, 8, owner, owner + 1, 7);
      due("the smallest so far", x.chosen(0, TEN, 8), owner);
      due("its way", x.way(0, TEN), owner + 1);
    }
    flap(x, 0, TEN, 8, 0, 2);
    x.offer(0, TEN, 8, 0, 1, 7);
    due("0 is damped", x.chosen(0, TEN, 8), 1);
  }

  private static void notLiveIsNotThere() {
    says("(A PREFIX that is not LIVE is as if it were not there, for all that goes by ways.)");
    Routetable x = sample();
    Routetable without = sample();
    without.withdraw(0, TEN, 8, 0);
    flap(x, 0, TEN, 8, 0, 2);
    x.offer(0, TEN, 8, 0, 3, 4);
    for (Routetable each : new Routetable[] {x, without}) {
      each.link(0, 3, 4);
      each.link(0, 1, 0);
    }
    due("way", x.way(0, TEN), without.way(0, TEN));
    due("length", x.length(0, TEN), 0);
    due("best", x.best(0, TEN), "0.0.0.0/0");
    due("without another", x.without(0, 0, 0, TEN), NONE);
    due("text", x.text(0), without.text(0));
    due("ranges", x.rangesText(0), without.rangesText(0));
    due("window", x.window(0, TEN, TEN), 0);
    due("share", x.share(0, 3), 0L);
    due("least", x.least(0), without.least(0));
    due("live lengths", x.table(0, 3), 3);
    due("lengthFrom", x.lengthFrom(0, 9, true), 0);
    due("differ", x.differ(0, 1), without.differ(0, 1));
    due("parting", x.parting(0, 1), without.parting(0, 1));
    due("trace", x.trace(0, TEN), "0>0");
    due("fate", x.fate(0, TEN), 2);
    due("reach", x.reach(0, 0), 0L);
    due("firstOf", x.firstOf(0, 0), -1L);
    due("send", x.send(0, TEN, 2), REFUSED);
    due("no hit", x.hits(0, TEN, 8), 0);
    due("recent", x.recent(0), "0.0.0.0/0");
    due("shrink", x.shrink(0), without.shrink(0));
  }

  private static void greatestLength() {
    says("that of the LIVE PREFIX of the greatest LENGTH in which it lies (the BEST PREFIX)");
    Routetable x = new Routetable();
    for (int length = 32; length >= 22; length--) {
      x.offer(0, TEN, length, 0, length % 6, 32 - length);
    }
    x.offer(0, 0, 0, 0, 1, 0);
    for (int length = 32; length >= 22; length--) {
      int last = (int) (TEN + (ALL >> length) - 1);
      due("length at the last of /" + length, x.length(0, last), length == 32 ? 32 : length);
      due("way at the last of /" + length, x.way(0, last), length % 6);
    }
    due("outside of all but one", x.length(0, TEN - 1), 0);
    due("at the first", x.length(0, TEN), 32);
    x.withdraw(0, TEN, 32, 0);
    due("the next one", x.length(0, TEN), 31);
  }

  private static void noneWithoutOne() {
    says("NONE without one, and NONE by a HOLE.");
    Routetable x = new Routetable();
    x.offer(0, TEN, 8, 0, 2, 0);
    due("without one", x.way(0, TEN - 1), NONE);
    due("length", x.length(0, TEN - 1), NONE);
    due("best", x.best(0, TEN - 1), "none");
    x.offer(0, TEN, 9, 0, NONE, 0);
    due("by a hole, in a prefix with a way", x.way(0, TEN), NONE);
    due("its length", x.length(0, TEN), 9);
    x.offer(0, TEN, 10, 0, 3, 0);
    due("in a hole", x.way(0, TEN), 3);
    due("behind it", x.way(0, ip(10, 64, 0, 0)), NONE);
  }

  private static void hitsSinceItCame() {
    says("how many HOPS went by it (see 5) since it came into the TABLE.");
    Routetable x = new Routetable();
    x.offer(0, TEN, 8, 0, 2, 0);
    due("none at first", x.hits(0, TEN, 8), 0);
    x.send(0, TEN, 1);
    x.send(0, TEN, 1);
    due("two", x.hits(0, TEN, 8), 2);
    x.offer(0, TEN, 8, 1, 2, 0);
    x.offer(0, TEN, 8, 0, 4, 9);
    x.withdraw(0, TEN, 8, 0);
    x.minute();
    due("it never left", x.hits(0, TEN, 8), 2);
    flap(x, 0, TEN, 8, 1, 2);
    x.offer(0, TEN, 8, 1, 2, 0);
    due("it left and came", x.hits(0, TEN, 8), 0);
    x.minute();
    x.minute();
    x.send(0, TEN, 1);
    x.offer(0, TEN, 8, 0, 2, 0);
    x.withdraw(0, TEN, 8, 1);
    due("live or not, it stays", x.hits(0, TEN, 8), 1);
    x.leave(0, 0);
    x.offer(0, TEN, 8, 3, 2, 0);
    due("it left by leave and came", x.hits(0, TEN, 8), 0);
    x.send(0, TEN, 1);
    x.clear(0);
    x.offer(0, TEN, 8, 3, 2, 0);
    due("it was cleared and came", x.hits(0, TEN, 8), 0);
  }

  private static void noOfferToWithdraw() {
    says("Returns whether there was one (otherwise nothing is done, and no PENALTY grows).");
    Routetable x = new Routetable();
    due("no prefix", x.withdraw(0, TEN, 8, 1), false);
    due("no penalty", x.penalty(0, TEN, 8, 1), 0);
    x.offer(0, TEN, 8, 0, 1, 1);
    due("no offer of this owner", x.withdraw(0, TEN, 8, 1), false);
    due("no penalty", x.penalty(0, TEN, 8, 1), 0);
    due("no prefix of this length", x.withdraw(0, TEN, 7, 0), false);
    due("no prefix at this router", x.withdraw(1, TEN, 8, 0), false);
    due("one", x.withdraw(0, TEN, 8, 0), true);
    due("not a second time", x.withdraw(0, TEN, 8, 0), false);
    due("only one penalty", x.penalty(0, TEN, 8, 0), 1000);
  }

  private static void leaves() {
    says("Withdraws all OFFERS of an OWNER at a ROUTER.");
    Routetable x = new Routetable();
    due("none", x.leave(3, 3), 0);
    for (int i = 0; i < 12; i++) {
      x.offer(3, ip(i, 0, 0, 0), 8, 3, 1, 1);
      x.offer(3, ip(i, 0, 0, 0), 8, i % 2, 1, 1);
      x.offer(2, ip(i, 0, 0, 0), 8, 3, 1, 1);
    }
    due("a full table", x.leave(3, 3), 12);
    due("the other owners' stay", x.table(3, 2), 12);
    due("the other router's stay", x.table(2, 2), 12);
    due("twelve penalties", x.table(3, 5), 12);
    due("again", x.leave(3, 3), 0);
    due("still twelve", x.table(3, 5), 12);
    due("half of the table", x.leave(3, 0), 6);
    due("the prefixes go with them", x.table(3, 0), 6);
  }

  private static void minutes() {
    says("Returns how many PENALTIES above 0 there are then, at all ROUTERS together.");
    Routetable x = new Routetable();
    due("none", x.minute(), 0);
    for (int router = 0; router < 4; router++) {
      for (int owner = 0; owner < 4; owner++) {
        flap(x, router, TEN, 8, owner, 1);
      }
    }
    due("all owners, all routers", x.minute(), 16);
    flap(x, 2, TEN, 9, 0, 1);
    due("one more", x.minute(), 17);
    due("125", x.minute(), 17);
    due("62 is 0", x.minute(), 1);
    due("the last one", x.minute(), 0);
    due("nothing in the tables", x.table(2, 0), 0);
    x.offer(2, TEN, 8, 0, 1, 1);
    due("an offer without a penalty", x.minute(), 0);
    due("stays", x.text(2), "10.0.0.0/8>1");
  }

  private static void clears() {
    says("All PREFIXES of a ROUTER go, with their OFFERS and HITS; its PENALTIES become 0. (LINKS stay.)");
    Routetable x = new Routetable();
    due("none", x.clear(1), 0);
    for (int i = 0; i < 12; i++) {
      x.offer(1, ip(i, 0, 0, 0), 8, i % 4, 1, 1);
    }
    x.link(1, 1, 3);
    x.send(1, 0, 1);
    flap(x, 1, 0, 8, 1, 3);
    flap(x, 0, 0, 8, 1, 3);
    due("a full one", x.clear(1), 12);
    for (int what = 0; what <= 5; what++) {
      due("table " + what, x.table(1, what), 0);
    }
    due("penalty", x.penalty(1, 0, 8, 1), 0);
    due("the link", x.linkOf(1, 1), 3);
    due("another router's penalty", x.penalty(0, 0, 8, 1), 3000);
    due("a new offer", x.offer(1, 0, 8, 1, 2, 2), 1);
    due("is not damped", x.way(1, 0), 2);
    Routetable y = new Routetable();
    play(y, "w");
    due("penalties go where there are no prefixes, too", y.clear(0) + y.penalty(0, TEN, 8, 1), 0);
    play(y, "ww");
    y.offer(0, TEN, 8, 1, 0, 0);
    due("a damped one is one", y.clear(0), 1);
  }
}
