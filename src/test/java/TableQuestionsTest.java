/** The document's sentences on what is asked of ways and tables: promises 11 to 14 and 16 to 23. */
public final class TableQuestionsTest extends Checks {
  public static void main(String[] args) {
    lengthOrNone();
    textOrNone();
    without();
    noOffers();
    refusedWithoutAnOffer();
    noneChosen();
    refusedHits();
    tableNumbers();
    lengthsFrom();
    texts();
    end();
  }

  private static void lengthOrNone() {
    says("Returns the LENGTH of its BEST PREFIX, or NONE.");
    Routetable x = new Routetable();
    due("no prefix at all", x.length(0, 0), -1);
    x.offer(0, TEN, 32, 0, 1, 1);
    due("32", x.length(0, TEN), 32);
    due("beside it", x.length(0, TEN + 1), -1);
    x.offer(0, 0, 0, 0, NONE, 1);
    due("0, by a hole", x.length(0, TEN + 1), 0);
    due("at another router", x.length(1, TEN), -1);
  }

  private static void textOrNone() {
    says("Returns the text of its BEST PREFIX, or \"none\".");
    Routetable x = new Routetable();
    due("no prefix at all", x.best(0, 0), "none");
    x.offer(0, -1, 32, 0, 1, 1);
    due("the last address", x.best(0, -1), "255.255.255.255/32");
    due("beside it", x.best(0, -2), "none");
    x.offer(0, -1, 0, 0, NONE, 1);
    due("a hole", x.best(0, -2), "0.0.0.0/0");
    due("at another router", x.best(1, -1), "none");
  }

  private static void noOffers() {
    says("Returns how many OFFERS the PREFIX has (0, if it is not in the TABLE).");
    Routetable x = new Routetable();
    due("never there", x.offers(0, TEN, 8), 0);
    x.offer(0, TEN, 8, 3, 1, 1);
    due("there", x.offers(0, TEN, 8), 1);
    due("one in it", x.offers(0, TEN, 9), 0);
    due("one round it", x.offers(0, TEN, 7), 0);
    x.withdraw(0, TEN, 8, 3);
    due("not any more, but with a penalty", x.offers(0, TEN, 8), 0);
  }

  private static void noneChosen() {
    says("Returns the OWNER of the CHOSEN OFFER of the PREFIX; NONE, if it is not LIVE, or not in the TABLE.");
    Routetable x = new Routetable();
    due("never there", x.chosen(0, TEN, 8), -1);
    x.offer(0, TEN, 8, 0, NONE, 99);
    due("a hole is chosen", x.chosen(0, TEN, 8), 0);
    due("one in it", x.chosen(0, TEN, 9), -1);
    flap(x, 0, TEN, 8, 0, 2);
    due("not in the table", x.chosen(0, TEN, 8), -1);
    x.offer(0, TEN, 8, 0, 1, 1);
    due("not live", x.chosen(0, TEN, 8), -1);
    x.minute();
    due("live", x.chosen(0, TEN, 8), 0);
  }

  private static void refusedHits() {
    says("Returns the HITS of the PREFIX; REFUSED, if it is not in the TABLE.");
    Routetable x = new Routetable();
    due("never there", x.hits(0, TEN, 8), -9);
    x.offer(0, TEN, 8, 0, 1, 1);
    due("there", x.hits(0, TEN, 8), 0);
    due("one in it", x.hits(0, TEN, 9), -9);
    flap(x, 0, TEN, 8, 0, 2);
    due("not there, with a penalty", x.hits(0, TEN, 8), -9);
    x.offer(0, TEN, 8, 0, 1, 1);
    due("there, but not live", x.hits(0, TEN, 8), 0);
    x.clear(0);
    due("cleared", x.hits(0, TEN, 8), -9);
  }

  private static void without() {
    says("Returns the WAY of that ADDRESS, if the PREFIX were not in the TABLE (also if it is not).");
    Routetable x = sample();
    due("not in the table", x.without(0, TEN, 9, TEN), 3);
    due("not in the table, at an empty router", x.without(1, TEN, 8, TEN), NONE);
    due("in it", x.without(0, TEN, 8, TEN), 1);
    due("the only one", x.without(0, TEN, 0, 0), NONE);
    due("not one of another length", x.without(0, ip(10, 64, 0, 0), 10, ip(10, 64, 0, 0)), NONE);
    due("a hole", x.without(0, ip(10, 64, 0, 0), 32, ip(10, 64, 0, 0)), 2);
    due("an address outside", x.without(0, TEN, 8, TWENTY), 1);
    due("length 0 is not all lengths", x.without(0, 0, 0, TEN), 3);
  }

  private static void refusedWithoutAnOffer() {
    says("Returns that of the OFFER of the OWNER for the PREFIX; REFUSED, if there is none.");
    Routetable x = new Routetable();
    play(x, "ww");
    for (int what = 0; what <= 2; what++) {
      due("not in the table", x.ofOffer(0, TWENTY, 8, 1, what), REFUSED);
      due("but a penalty", x.ofOffer(0, TEN, 8, 1, what), REFUSED);
    }
    x.offer(0, TEN, 8, 2, NONE, 0);
    due("of another owner", x.ofOffer(0, TEN, 8, 1, 0), REFUSED);
    due("a hole", x.ofOffer(0, TEN, 8, 2, 0), NONE);
    due("for nothing", x.ofOffer(0, TEN, 8, 2, 1), 0);
    due("hits of a prefix that left", x.hits(0, TEN, 9), REFUSED);
  }

  private static void tableNumbers() {
    says("0 how many PREFIXES are in the TABLE, 1 how many of these are LIVE, 2 how many OFFERS there are, 3 of how many "
        + "LENGTHS there are LIVE PREFIXES, 4 all HITS together, 5 how many PENALTIES are above 0");
    Routetable x = new Routetable();
    for (int i = 0; i < 12; i++) {
      for (int owner = 0; owner < 4; owner++) {
        x.offer(0, ip(i, 0, 0, 0), i < 11 ? 8 + i : 32, owner, 1, 1);
      }
    }
    int[] full = {12, 12, 48, 12, 0, 0};
    for (int what = 0; what <= 5; what++) {
      due("full, " + what, x.table(0, what), full[what]);
    }
    x.send(0, 0, 1);
    x.send(0, 1, 1);
    x.send(0, ip(11, 0, 0, 0), 1);
    for (int owner = 0; owner < 4; owner++) {
      flap(x, 0, 0, 8, owner, 2);
    }
    for (int owner = 0; owner < 4; owner++) {
      x.offer(0, 0, 8, owner, 1, 1);
    }
    flap(x, 0, ip(11, 0, 0, 0), 32, 0, 1);
    int[] damped = {12, 11, 47, 11, 1, 5};
    for (int what = 0; what <= 5; what++) {
      due("one damped, " + what, x.table(0, what), damped[what]);
    }
    Routetable y = new Routetable();
    y.offer(0, 0, 0, 0, 1, 1);
    due("length 0 is a length", y.table(0, 3), 1);
    y.offer(0, -1, 32, 0, 1, 1);
    y.offer(0, 0, 32, 0, 1, 1);
    due("two of length 32", y.table(0, 3), 2);
  }

  private static void lengthsFrom() {
    says("Returns the nearest LENGTH of a LIVE PREFIX that is no more than from, if isDown, otherwise no less; NONE "
        + "without one; REFUSED, if from is below -1, or is -1 and isDown false.");
    Routetable x = new Routetable();
    due("down in an empty table", x.lengthFrom(0, 32, true), NONE);
    due("up in an empty table", x.lengthFrom(0, 0, false), NONE);
    x.offer(0, TEN, 8, 0, 1, 1);
    x.offer(0, TEN, 24, 0, 1, 1);
    int[] downFrom = {-1, 0, 7, 8, 9, 23, 24, 25, 32};
    int[] downWant = {NONE, NONE, NONE, 8, 8, 8, 24, 24, 24};
    int[] upWant = {REFUSED, 8, 8, 8, 24, 24, 24, NONE, NONE};
    for (int i = 0; i < downFrom.length; i++) {
      due("down from " + downFrom[i], x.lengthFrom(0, downFrom[i], true), downWant[i]);
      due("up from " + downFrom[i], x.lengthFrom(0, downFrom[i], false), upWant[i]);
    }
    for (int from : new int[] {-2, -9, LOWEST}) {
      due("down from " + from, x.lengthFrom(0, from, true), REFUSED);
      due("up from " + from, x.lengthFrom(0, from, false), REFUSED);
    }
    x.offer(0, 0, 0, 0, 1, 1);
    x.offer(0, 0, 32, 0, 1, 1);
    due("0 from above", x.lengthFrom(0, 7, true), 0);
    due("0 from 0", x.lengthFrom(0, 0, true) + x.lengthFrom(0, 0, false), 0);
    due("32 from below", x.lengthFrom(0, 25, false), 32);
    due("32 from 32", x.lengthFrom(0, 32, true) + x.lengthFrom(0, 32, false), 64);
    due("-1 is below 0", x.lengthFrom(0, -1, true), NONE);
    due("refused all the same", x.lengthFrom(0, -1, false), REFUSED);
  }

  private static void texts() {
    says("(\"0.0.0.0/0>1 10.0.0.0/8>-1\"; \"\" without any).");
    Routetable x = new Routetable();
    due("without any", x.text(0), "");
    x.offer(0, TEN, 8, 0, NONE, 0);
    due("one, no blank", x.text(0), "10.0.0.0/8>-1");
    x.offer(0, 0, 0, 0, 1, 0);
    due("two, one blank", x.text(0), "0.0.0.0/0>1 10.0.0.0/8>-1");
    x.leave(0, 0);
    due("without any", x.text(0), "");
    x.offer(0, TEN, 8, 0, 1, 0);
    x.withdraw(0, TEN, 8, 0);
    x.offer(0, TEN, 8, 0, 1, 0);
    due("without a live one", x.text(0), "");
  }
}
