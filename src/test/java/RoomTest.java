import java.lang.management.ManagementFactory;

/** All calls of a run live in one room: what a new object needs is little, and calls need nothing but text(). */
public final class RoomTest {
  private static final Checks CHECKS = new Checks("RoomTest");
  private static final com.sun.management.ThreadMXBean BEAN =
      (com.sun.management.ThreadMXBean) ManagementFactory.getThreadMXBean();
  private static long sum = 0;

  private RoomTest() { }

  public static void main(String[] args) {
    long made = Long.MAX_VALUE;
    long called = Long.MAX_VALUE;
    long read = Long.MAX_VALUE;
    // the least of some rounds: the machine's own warming up takes some in the first ones
    for (int round = 0; round < 20; round++) {
      long start = bytes();
      WhoseHare x = new WhoseHare();
      long behindMaking = bytes();
      prepare(x);
      long ahead = bytes();
      callAll(x);
      long behind = bytes();
      for (int k = 0; k < 5; k++) {
        readText(x);
      }
      made = Math.min(made, behindMaking - start);
      called = Math.min(called, behind - ahead);
      read = Math.min(read, bytes() - behind);
    }
    CHECKS.holds("a new object takes " + made + " bytes, below 10000", made < 10000);
    CHECKS.due("bytes that calls take", called, 0);
    CHECKS.holds("five texts take " + read + " bytes, below 1000", read < 1000);
    CHECKS.holds("the sum of the answers", sum != 0);
    CHECKS.end();
  }

  private static long bytes() {
    return BEAN.getThreadAllocatedBytes(Thread.currentThread().getId());
  }

  private static void prepare(WhoseHare x) {
    for (int g = 0; g < 8; g++) {
      x.ground(g - 1);
    }
    for (int b = 0; b < 6; b++) {
      x.beast(b, b);
    }
    for (int m = 0; m < 32; m++) {
      x.moment(m, m % 10, 0, m % 9, m % 8);
    }
    for (int m = 0; m < 6; m++) {
      x.unsure(m * 5, 1);
    }
  }

  private static void readText(WhoseHare x) {
    // worth weight;follow 1;
    sum += x.feed(0x776f727468207765L, 8) + x.feed(0x696768743b666f6cL, 8) + x.feed(0x6c6f7720313bL, 6) + x.text();
  }

  private static void callAll(WhoseHare x) {
    for (int k = 0; k < 5; k++) {
      sum += x.may(k) + x.hangs(k) + x.least(k, k) + x.custom(k) + x.quarrel(k) + x.nobody(k);
      sum += x.claims(k) + x.claimTold(k, k, k) + x.whoseIs(k, k) + x.why(k, k) + x.where(k, k, 0);
      sum += x.share(k, k, k, 0) + x.count(k) + x.image() + x.back() + x.taken(k, k) + x.follow(k, k, k);
      sum += x.sheet(k, 2, 33) + x.cell(k, k, k) + x.copy(k, 0, 0, 1, 3) + x.tell(k, 2, 0, 5) + x.judge(k, k);
      sum += x.feed('?', 1) + x.text() + x.force(0) + x.undo() + x.momentTold(k, k) + x.owns(k, k);
    }
  }
}
