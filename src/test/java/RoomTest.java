import java.lang.management.ManagementFactory;
import java.util.function.IntConsumer;

/**
 * All calls of one run share one room of some 600,000 objects and 7.3 million fields and elements. No object is
 * smaller than 16 bytes, so 512 calls that take less than 8 MB stay below both.
 */
public final class RoomTest {
  private static final long MOST_BYTES = 8_000_000;
  private static final int CALLS = 512;

  private static int wrong = 0;
  private static long kept = 0;

  public static void main(String[] args) {
    Routetable full = new Routetable();
    for (int router = 0; router < 4; router++) {
      fill(full, router, 0);
      full.link(router, 1, (router + 1) % 4);
      full.link(router, 0, 4);
    }
    measure("new objects", i -> kept += new Routetable().books(2));
    measure("digest", i -> kept += full.digest());
    measure("isSound", i -> kept += full.isSound() ? 1 : 0);
    measure("text", i -> kept += full.text(i % 4).length());
    measure("rangesText", i -> kept += full.rangesText(i % 4).length());
    measure("least", i -> kept += full.least(i % 4).length());
    measure("best, dotted and trace", i -> kept += full.best(0, i).length() + full.trace(0, i).length());
    measure("reach", i -> kept += full.reach(i % 4, i % 3));
    Routetable grown = new Routetable();
    measure("offer and withdraw, a new prefix each", i -> {
      grown.offer(0, i << 8, 24, i % 4, 0, 0);
      grown.withdraw(0, i << 8, 24, i % 4);
    });
    measure("shrink", i -> full.shrink(i % 4));
    measure("leave and offers", i -> {
      full.leave(i % 4, 0);
      full.offer(i % 4, i << 20, 20, 0, 1, 1);
    });
    System.out.println(wrong == 0 ? "all calls keep to the room" : wrong + " calls take too much");
    if (wrong > 0 || kept == 42) {
      System.exit(1);
    }
  }

  private static void fill(Routetable x, int router, int owner) {
    for (int i = 0; i < 12; i++) {
      x.offer(router, (i * 21 + router) << 24 | i << 16 | 1, 32, owner, i % 2, 0);
    }
  }

  private static void measure(String what, IntConsumer call) {
    com.sun.management.ThreadMXBean threads =
        (com.sun.management.ThreadMXBean) ManagementFactory.getThreadMXBean();
    long thread = Thread.currentThread().getId();
    long before = threads.getThreadAllocatedBytes(thread);
    for (int i = 0; i < CALLS; i++) {
      call.accept(i);
    }
    long taken = threads.getThreadAllocatedBytes(thread) - before;
    System.out.println(what + ": " + taken + " bytes in " + CALLS + " calls");
    if (taken > MOST_BYTES) {
      wrong++;
      System.out.println(what + " takes more than " + MOST_BYTES + " bytes");
    }
  }
}
