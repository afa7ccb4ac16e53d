import java.lang.management.ManagementFactory;

/** What 512 of the dearest calls on one object make stays far within the room; no argument makes a call throw. */
public final class RoomRuns {
  private static int wrong = 0;

  private static long allocated() {
    com.sun.management.ThreadMXBean bean = (com.sun.management.ThreadMXBean) ManagementFactory.getThreadMXBean();
    return bean.getThreadAllocatedBytes(Thread.currentThread().getId());
  }

  private static void write(YardCourt x, String text) {
    x.end(0);
    StringBuilder padded = new StringBuilder(text);
    while (padded.length() % 20 != 0) padded.append(' ');
    for (int i = 0; i < padded.length(); i += 20) {
      int[] five = new int[5];
      for (int k = 0; k < 20; k++) five[k / 4] = five[k / 4] << 8 | padded.charAt(i + k);
      x.feed(five[0], five[1], five[2], five[3], five[4]);
    }
  }

  private static YardCourt full() {
    YardCourt x = new YardCourt();
    for (int b = 0; b < 8; b++) x.beast(b, 10, 3, b, b);
    x.bench(255);
    x.terms(0, 4);
    x.terms(3, 999);
    x.terms(4, 999);
    write(x, "votes 50;votes 70-beast if favour=1;votes 30+kind if favour=2;votes 55 if favour=3 and hunger>40;price 3+salt");
    x.force(x.law());
    return x;
  }

  /** 16 bytes an object, 4 an element at the least: 2 million bytes are below 7.3 million elements by far. */
  private static void within(String what, long before, long most) {
    long bytes = allocated() - before;
    if (bytes > most) {
      wrong++;
      System.out.println(what + " made " + bytes + " bytes, at most " + most + " are due");
    }
  }

  private static void dearest() {
    full();
    long before = allocated();
    new YardCourt();
    within("a new object", before, 60_000);
    YardCourt x = full();
    before = allocated();
    for (int k = 0; k < 500; k++) {
      x.terms(3, 900 + k % 99);
      x.saddle(2);
      x.sitting(k);
      x.steady(4, 0);
      x.appeal(5);
      x.fairest();
      x.image(0);
      x.back(0);
    }
    within("4000 dear calls", before, 100_000);
    x = new YardCourt();
    long laws = 0;
    for (int k = 0; k < 100; k++) {
      x.image(0);
      write(x, "votes 1" + "+1".repeat(49));
      before = allocated();
      x.law();
      laws += allocated() - before;
      x.back(0);
    }
    if (laws > 100 * 2000) {
      wrong++;
      System.out.println("100 laws made " + laws + " bytes");
    }
  }

  private static final int[] ODD = {Integer.MIN_VALUE, -257, -2, -1, 0, 1, 2, 3, 5, 7, 8, 9, 23, 24, 31, 32, 33, 99,
    255, 256, 400, 401, 1_000_000, 1_000_001, Integer.MAX_VALUE};

  private static void threeOdd(YardCourt x, int a, int b, int c) {
    x.put(a, b, c);
    x.chance(a, b, c);
    x.reply(a, b, c);
    x.enough(a, b, c);
    x.judged(a, b, c);
    x.agree(a, b, c);
    x.proof(a, b, c);
  }

  private static void twoOdd(YardCourt x, int a, int b) {
    x.beast(a, b, a, b, a);
    x.of(a, b);
    x.meal(a, b);
    x.hunger(a, b);
    x.terms(a, b);
    x.feed(a, b, a, b, a);
    x.price(a, b);
    x.bribed(a, b);
    x.sure(a, b);
    x.bribe(a, b);
    x.steady(a, b);
    x.right(a, b);
    x.again(a, b);
    x.lay(a, b);
  }

  private static void oneOdd(YardCourt x, int a) {
    x.bench(a);
    x.end(a);
    x.force(a);
    x.odds(a);
    x.tips(a);
    x.value(a);
    x.saddle(a);
    x.swing(a);
    x.annul(a);
    x.trusted(a);
    x.appeal(a);
    x.sitting(a);
    x.image(a);
    x.back(a);
    x.count(a);
    x.fairest();
    x.law();
    x.row();
  }

  private static void oddArguments() {
    for (int state = 0; state < 3; state++) {
      YardCourt x = state == 0 ? full() : new YardCourt();
      for (int a : ODD) {
        if (state != 2) x = state == 0 ? full() : new YardCourt();
        oneOdd(x, a);
        for (int b : ODD) {
          twoOdd(x, a, b);
          for (int c : ODD) threeOdd(x, a, b, c);
        }
      }
    }
  }

  public static void main(String[] args) {
    dearest();
    oddArguments();
    System.out.println(wrong == 0 ? "all within the room" : wrong + " faults");
    if (wrong != 0) System.exit(1);
  }
}
