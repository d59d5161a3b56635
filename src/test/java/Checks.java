import java.nio.file.Files;
import java.nio.file.Path;
import java.util.concurrent.Callable;

/** What the tests have in common: checks that are counted, and a few words for addresses and calls. */
abstract class Checks {
  static final int NONE = -1;
  static final int REFUSED = -9;
  static final int LOWEST = Integer.MIN_VALUE;
  static final int HIGHEST = Integer.MAX_VALUE;
  static final long ALL = 1L << 32;
  static final int TEN = 10 << 24;
  static final int TWENTY = 20 << 24;

  private static final Path DOCUMENT = Path.of("../shared/DOC.md");

  private static int checks = 0;
  private static int wrong = 0;
  private static String part = "";

  /** Names what the checks behind it are about. */
  static void about(String name) {
    part = name;
  }

  /** The same with words of the document, which have to stand there just so. */
  static void says(String words) {
    about(words);
    due("the document has these words", document().contains(words), true);
  }

  static String document() {
    try {
      return Files.readString(DOCUMENT);
    } catch (java.io.IOException e) {
      throw new IllegalStateException(e);
    }
  }

  static void due(String call, Object got, Object want) {
    checks++;
    if (!want.equals(got)) {
      wrong++;
      System.out.println(part + ": " + call + " answered " + got + ", due is " + want);
    }
  }

  static void end() {
    System.out.println(checks + " checks, " + wrong + " wrong");
    if (wrong > 0) {
      System.exit(1);
    }
  }

  static void index(Routetable x, String call, Callable<?> made) {
    refuses(x, call, made, "IndexOutOfBoundsException");
  }

  static void argument(Routetable x, String call, Callable<?> made) {
    refuses(x, call, made, "IllegalArgumentException");
  }

  static void state(Routetable x, String call, Callable<?> made) {
    refuses(x, call, made, "IllegalStateException");
  }

  /** A call that throws changes nothing, so the checksum stays. */
  private static void refuses(Routetable x, String call, Callable<?> made, String want) {
    long before = x.digest();
    due(call + " throws", thrownBy(made), want);
    due("digest() after " + call, x.digest(), before);
  }

  static String thrownBy(Callable<?> made) {
    try {
      made.call();
      return "nothing";
    } catch (Exception e) {
      return e.getClass().getSimpleName();
    }
  }

  static int ip(int a, int b, int c, int d) {
    return a << 24 | b << 16 | c << 8 | d;
  }

  /** A table with three ways, a hole, and a prefix in a prefix in a prefix, at the router 0. */
  static Routetable sample() {
    Routetable x = new Routetable();
    x.offer(0, 0, 0, 0, 1, 5);
    x.offer(0, TEN, 8, 0, 3, 4);
    x.offer(0, ip(10, 64, 0, 0), 10, 0, 2, 0);
    x.offer(0, ip(10, 64, 0, 0), 32, 0, NONE, 0);
    return x;
  }

  /** 0 goes by 0 to 1, 1 by 1 to 2, 2 by 2 to 3, 3 by 3 out; 10/8 goes round at 3, 20/8 has a hole at 2. */
  static Routetable chain() {
    Routetable x = new Routetable();
    for (int router = 0; router < 4; router++) {
      x.offer(router, 0, 0, 0, router, 0);
      x.link(router, router, router + 1);
    }
    x.offer(3, TEN, 8, 0, 5, 0);
    x.link(3, 5, 1);
    x.offer(2, TWENTY, 8, 0, NONE, 0);
    return x;
  }

  /** Offers and withdraws again and again, for the penalties; an offer that was there goes as well. */
  static void flap(Routetable x, int router, int address, int length, int owner, int times) {
    for (int i = 0; i < times; i++) {
      x.offer(router, address, length, owner, 0, 0);
      x.withdraw(router, address, length, owner);
    }
  }

  /** At the router 0, for 10.0.0.0/8 and the owner 1: "w" offers and withdraws once, "m" is a minute. */
  static void play(Routetable x, String steps) {
    for (char step : steps.toCharArray()) {
      if (step == 'w') {
        flap(x, 0, TEN, 8, 1, 1);
      } else {
        x.minute();
      }
    }
  }

  /** All that an object tells of its four routers and of the prefixes of these addresses and lengths. */
  static String picture(Routetable x, int[] addresses, int[] lengths) {
    StringBuilder all = new StringBuilder().append(x.digest());
    for (int router = 0; router < 4; router++) {
      all.append('\n').append(x.text(router)).append('|').append(x.rangesText(router)).append('|').append(x.least(router));
      for (int address : addresses) {
        all.append('|').append(x.trace(router, address));
        for (int length : lengths) {
          addPrefix(all.append(' '), x, router, address, length);
        }
      }
    }
    for (int place = 0; place < 8; place++) {
      all.append(' ').append(x.recent(place));
    }
    return all.append(x.digest()).toString();
  }

  private static void addPrefix(StringBuilder all, Routetable x, int router, int address, int length) {
    all.append(x.hits(router, address, length));
    for (int owner = 0; owner < 4; owner++) {
      all.append(',').append(x.penalty(router, address, length, owner));
      for (int what = 0; what <= 2; what++) {
        all.append(',').append(x.ofOffer(router, address, length, owner, what));
      }
    }
  }
}
