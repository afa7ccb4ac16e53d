/** For each promise of the document: ordinary calls, the edges that it names, and wrong calls. */
public final class PromiseRuns {
  private static final int NONE = YardCourt.NONE;
  private static int wrong = 0;
  private static int promise = 0;
  private static int asked = 0;

  private static void due(long want, long got) {
    asked++;
    if (got != want) {
      wrong++;
      StackTraceElement at = new Throwable().getStackTrace()[1];
      System.out.println("promise " + promise + ", line " + at.getLineNumber() + ": answered " + got + ", due is " + want);
    }
  }

  /** Puts a text alone on the tape. */
  private static void write(YardCourt x, String text) {
    x.end(0);
    StringBuilder padded = new StringBuilder(text);
    while (padded.length() % 20 != 0) padded.append('#');
    for (int i = 0; i < padded.length(); i += 20) {
      int[] five = new int[5];
      for (int k = 0; k < 20; k++) five[k / 4] = five[k / 4] << 8 | padded.charAt(i + k);
      x.feed(five[0], five[1], five[2], five[3], five[4]);
    }
    x.end(text.length());
  }

  private static int enact(YardCourt x, String text) {
    write(x, text);
    int law = x.law();
    if (law >= 0) x.force(law);
    return law;
  }

  private static int faultOf(String text) {
    YardCourt x = new YardCourt();
    write(x, text);
    int law = x.law();
    if (law != 0 && law != -6) return -100;
    if ((law == 0) != (x.fault() == NONE)) return -101;
    return x.fault();
  }

  private static YardCourt with(int beasts, int bench, String law) {
    YardCourt x = new YardCourt();
    for (int b = 0; b < beasts; b++) x.beast((b + 3) % 10, 10 * b, b, (b + 4) % 10, 9 - b);
    x.bench(bench);
    if (!law.isEmpty() && enact(x, law) < 0) {
      wrong++;
      System.out.println("not a law: " + law + ", fault at " + x.fault());
    }
    return x;
  }

  /** What a sum is as a price, 0 .. 999; 10 if it is broken. */
  private static int sum(String text) {
    return with(3, 7, "price " + text).price(2, 1);
  }

  private static boolean is(String test) {
    return with(3, 7, "price 1 if " + test).price(2, 1) == 1;
  }

  private static void isSo(boolean want, String test) {
    asked++;
    if (is(test) != want) {
      wrong++;
      System.out.println("promise " + promise + ": " + test + " should be " + want);
    }
  }

  private static void beasts() {
    promise = 1;
    YardCourt x = new YardCourt();
    int[] first = {0, 0, 0, 0, 0, 0, 0, 0, 0, 0, 0, NONE, 1, 0, 0, 0, 0, 50};
    for (int i = 0; i < first.length; i++) due(first[i], x.count(i));
    due(NONE, x.fault());
    due(0, x.quashed());
    due(0, x.status());
    due(NONE, x.lay(NONE, 0));
    due(-2, x.back(0));
    due(-2, x.back(1));

    promise = 2;
    x = new YardCourt();
    int[][] bad = {{-1, 0, 0, 0, 0}, {10, 0, 0, 0, 0}, {0, -1, 0, 0, 0}, {0, 100, 0, 0, 0}, {0, 0, -1, 0, 0},
      {0, 0, 10, 0, 0}, {0, 0, 0, -1, 0}, {0, 0, 0, 10, 0}, {0, 0, 0, 0, -1}, {0, 0, 0, 0, 10}};
    for (int[] b : bad) due(-1, x.beast(b[0], b[1], b[2], b[3], b[4]));
    due(0, x.beast(9, 99, 9, 9, 9));
    for (int b = 1; b < 8; b++) due(b, x.beast(0, 0, 0, 0, 0));
    due(-5, x.beast(0, 0, 0, 0, 0));
    due(-1, x.beast(10, 0, 0, 0, 0));
    due(8, x.count(0));

    promise = 3;
    x = new YardCourt();
    x.beast(1, 2, 3, 4, 5);
    int[] most = {9, 99, 9, 9, 9, 3};
    for (int what = 0; what < 6; what++) {
      due(what < 5 ? what + 1 : 0, x.put(0, what, most[what]));
      due(most[what], x.put(0, what, 0));
      due(-1, x.put(0, what, most[what] + 1));
      due(-1, x.put(0, what, -1));
      due(0, x.put(0, what, 1));
    }
    due(-1, x.put(0, 6, 0));
    due(-1, x.put(0, -1, 0));
    due(-2, x.put(1, 0, 0));
    due(-2, x.put(-1, 0, 0));
    due(-2, x.put(8, 0, 0));
    due(-1, x.put(1, 0, 10));

    promise = 4;
    x = new YardCourt();
    x.beast(1, 2, 3, 4, 5);
    for (int what = 0; what < 6; what++) due(what < 5 ? what + 1 : 0, x.of(0, what));
    x.put(0, 5, 3);
    due(3, x.of(0, 5));
    due(NONE, x.of(0, 6));
    due(NONE, x.of(0, -1));
    due(NONE, x.of(1, 0));
    due(NONE, x.of(-1, 0));
    due(0, x.status());
  }

  private static void meals() {
    promise = 5;
    YardCourt x = new YardCourt();
    x.beast(0, 50, 4, 0, 0);
    due(1, x.meal(0, 23));
    due(2, x.meal(0, 0));
    due(3, x.meal(0, 0));
    due(-1, x.meal(0, 24));
    due(-1, x.meal(0, -1));
    due(-2, x.meal(1, 0));
    due(-1, x.meal(1, 24));
    for (int k = 4; k <= 24; k++) due(k, x.meal(0, 5));
    due(-5, x.meal(0, 5));
    due(-2, x.meal(-1, 5));
    due(24, x.count(1));

    promise = 6;
    due(24, x.fast());
    due(0, x.fast());
    due(99, x.hunger(0, 23));
    due(50, x.hunger(0, 0));
    due(1, x.meal(0, 0));

    x = with(1, 1, "votes hunger;price hunger");
    x.put(0, 1, 40);
    x.terms(3, 30);
    x.meal(0, 0);
    due(0, x.bribed(1, 0));
    x.fast();
    due(40, x.bribed(0, 0));
    due(NONE, x.bribed(1, 0));

    promise = 7;
    x = new YardCourt();
    x.beast(0, 50, 4, 0, 0);
    x.beast(0, 99, 9, 0, 0);
    due(50, x.hunger(0, 0));
    due(98, x.hunger(0, 12));
    due(99, x.hunger(0, 13));
    due(99, x.hunger(1, 0));
    x.meal(0, 10);
    x.meal(0, 4);
    due(62, x.hunger(0, 3));
    due(0, x.hunger(0, 4));
    due(20, x.hunger(0, 9));
    due(0, x.hunger(0, 10));
    due(52, x.hunger(0, 23));
    due(99, x.hunger(1, 10));
    x.meal(1, 0);
    due(0, x.hunger(1, 0));
    due(99, x.hunger(1, 11));
    due(NONE, x.hunger(2, 0));
    due(NONE, x.hunger(-1, 0));
    due(NONE, x.hunger(0, 24));
    due(NONE, x.hunger(0, -1));
  }

  private static void benchAndTerms() {
    promise = 8;
    YardCourt x = new YardCourt();
    due(-1, x.bench(1));
    due(0, x.bench(0));
    x.beast(0, 0, 0, 0, 0);
    x.beast(0, 0, 0, 0, 0);
    due(0, x.bench(3));
    due(3, x.bench(2));
    due(-1, x.bench(4));
    due(-1, x.bench(-1));
    due(-1, x.bench(256));
    due(2, x.bench(2));
    due(1, x.count(4));

    promise = 9;
    int[] low = {1, 0, 0, 0, 0, 0};
    int[] high = {8, 23, 1, 999, 999, 100};
    int[] first = {1, 0, 0, 0, 0, 50};
    for (int what = 0; what < 6; what++) {
      due(-1, x.terms(what, low[what] - 1));
      due(-1, x.terms(what, high[what] + 1));
      due(first[what], x.terms(what, high[what]));
      due(high[what], x.count(12 + what));
      due(high[what], x.terms(what, low[what]));
      due(low[what], x.count(12 + what));
    }
    due(-1, x.terms(-1, 1));
    due(-1, x.terms(6, 1));
  }

  private static void tape() {
    promise = 10;
    YardCourt x = new YardCourt();
    for (int k = 1; k <= 20; k++) due(20 * k, x.feed(0, 0, 0, 0, 0));
    due(NONE, x.feed(0, 0, 0, 0, 0));
    due(400, x.count(5));
    due(381, x.end(381));
    due(NONE, x.feed(0, 0, 0, 0, 0));
    due(380, x.end(380));
    due(400, x.feed(0, 0, 0, 0, 0));
    x.end(0);
    x.feed(0x00ff8001, 0x01804000, 0, 0, 0);
    x.end(6);
    due(1, x.row());
    due(1, x.quashed());
    due(0, x.right(7, 1));
    due(1, x.right(7, 0));
    due(0, x.status());

    promise = 11;
    x = new YardCourt();
    due(0, x.end(0));
    due(NONE, x.end(1));
    due(NONE, x.end(-1));
    x.feed(1, 2, 3, 4, 5);
    due(20, x.end(20));
    due(NONE, x.end(21));
    due(7, x.end(7));
    due(7, x.count(5));
    due(NONE, x.end(8));
    due(0, x.status());

    promise = 12;
    x = new YardCourt();
    due(-6, x.row());
    write(x, "\u0000\u0007\u0003\u0001\u00ff\u00ff\u0000\u0000\u0000\u0002\u0001\u0001\u0000\u0001\u0003\u0000\u0001");
    due(3, x.row());
    due(0, x.count(5));
    due(3, x.count(3));
    due(1, x.right(0, 0));
    due(1, x.right(0, 1));
    due(2, x.right(2, 1));
    due(0, x.right(3, 0));
    due(1, x.right(7, 1));
    due(-6, x.row());
    write(x, "\u0000");
    due(0, x.row());
    due(0, x.status());
    for (int k = 3; k < 19; k++) x.judged(0, 1, 1);
    write(x, "\u0001\u0001\u0001\u0001\u0001\u0001\u0001\u0001\u0001");
    due(1, x.row());
    due(20, x.count(3));

    promise = 13;
    due(2, x.quashed());
    due(-6, x.row());
    due(2, x.quashed());
    write(x, "\u0000\u0001\u0001");
    due(0, x.row());
    due(1, x.quashed());
    x.annul(0);
    write(x, "\u0000\u0001\u0001");
    due(1, x.row());
    due(0, x.quashed());
  }

  private static void laws() {
    promise = 14;
    YardCourt x = new YardCourt();
    for (int k = 0; k < 6; k++) {
      write(x, "votes " + k);
      due(k, x.law());
      due(0, x.count(5));
    }
    write(x, "votes ?");
    due(-5, x.law());
    due(0, x.count(5));
    due(NONE, x.fault());
    due(-5, x.law());
    x = new YardCourt();
    due(-6, x.law());
    write(x, "votes ?");
    due(-6, x.law());
    due(0, x.count(5));
    due(0, x.count(2));
    write(x, "votes 1");
    due(0, x.law());

    promise = 15;
    due(NONE, x.fault());
    due(0, faultOf(""));
    due(3, faultOf("   "));
    due(NONE, faultOf("  votes1;lies [ 2 ] if not(rain=1)  "));
    due(0, faultOf("vote 1"));
    due(1, faultOf(" votesx 1"));
    due(0, faultOf("votesz 1"));
    due(0, faultOf("votesa 1"));
    due(NONE, faultOf("votes 190"));
    due(8, faultOf("votes 19:"));
    due(9, faultOf("votes 19/"));
    due(0, faultOf("Votes 1"));
    due(6, faultOf("votes - 1"));
    due(8, faultOf("votes 1 1"));
    due(7, faultOf("votes 1)"));
    due(6, faultOf("votes (1)"));
    due(9, faultOf("votes [1 ;"));
    due(10, faultOf("votes 1 if"));
    due(12, faultOf("votes 1 if 1"));
    due(14, faultOf("votes 1 if 1  "));
    due(13, faultOf("votes 1 if 1 and 2"));
    due(14, faultOf("votes 1 if 1<2<3"));
    due(15, faultOf("votes 1 if (1<2"));
    due(16, faultOf("votes 1 if (1<2 if"));
    due(13, faultOf("votes 1 if (1)<2"));
    due(15, faultOf("votes 1 if 1<2 if 1<2"));
    due(11, faultOf("votes 1 if or 1<2"));
    due(15, faultOf("votes 1 if not if"));
    due(8, faultOf("votes 1 and 2"));
    due(8, faultOf("votes 1;;lies 2"));
    due(8, faultOf("votes 1;"));
    due(9, faultOf("votes 1; "));
    due(6, faultOf("votes 1001"));
    due(NONE, faultOf("votes 0001000"));
    due(6, faultOf("votes 99999999999999999999999"));
    due(6, faultOf("votes \u00ff"));
    due(6, faultOf("votes favours"));
    due(5, faultOf("votes\t1"));
    String twelve = "lies 1;".repeat(12);
    due(NONE, faultOf(twelve.substring(0, 83)));
    due(84, faultOf(twelve));
    due(84, faultOf(twelve + "lies 1"));
    due(85, faultOf(twelve + " lies 1"));
    String fifty = "votes 1" + "+1".repeat(48) + ";price side";
    due(NONE, faultOf(fifty));
    due(fifty.length() + 1, faultOf(fifty + "+1"));
    due(fifty.length() + 2, faultOf(fifty + "+[minute]"));
    due(fifty.length() + 1, faultOf(fifty + "+"));
    String eight = "votes 1 if ((((([[[1]]]=1)))))";
    due(NONE, faultOf(eight));
    due(19, faultOf("votes 1 if (((((((([1]=1))))))))"));
    due(19, faultOf("votes 1 if (((((((((1=1)))))))))"));
    due(14, faultOf("votes [[[[[[[[[1]]]]]]]]]"));
    due(NONE, faultOf("votes [[[[[[[[1]]]]]]]]+[[[[[[[[1]]]]]]]]"));
    due(NONE, faultOf("votes 1 if " + "not ".repeat(90) + "1=1"));
    write(x, "lies");
    due(-6, x.law());
    due(4, x.fault());
    write(x, "lies 1");
    due(1, x.law());
    due(NONE, x.fault());

    promise = 16;
    x = new YardCourt();
    due(-2, x.force(0));
    due(NONE, x.force(NONE));
    due(0, x.status());
    enact(x, "votes 1");
    due(0, x.count(11));
    enact(x, "votes 2");
    due(1, x.force(0));
    due(-2, x.force(2));
    due(-2, x.force(-2));
    due(0, x.force(NONE));
    due(NONE, x.count(11));
    due(NONE, x.force(1));
    due(1, x.force(1));
  }

  private static void asking() {
    promise = 17;
    YardCourt x = with(3, 7, "");
    due(50, x.chance(0, 0, 0));
    x = with(3, 7, "votes beast*10+favour");
    due(23, x.chance(2, 0, 3));
    due(0, x.chance(0, 23, 0));
    due(NONE, x.chance(3, 0, 0));
    due(NONE, x.chance(-1, 0, 0));
    due(NONE, x.chance(0, 24, 0));
    due(NONE, x.chance(0, -1, 0));
    due(NONE, x.chance(0, 0, 4));
    due(NONE, x.chance(0, 0, -1));
    due(100, with(1, 1, "votes 101").chance(0, 0, 0));
    due(0, with(1, 1, "votes 0-1").chance(0, 0, 0));
    due(50, with(1, 1, "lies 3;price 4").chance(0, 0, 0));
    due(7, with(1, 1, "votes 7;votes 8 if 1=0;votes 9/0;votes 3 if 1/0=1").chance(0, 0, 0));
    due(8, with(1, 1, "votes 7;votes 8").chance(0, 0, 0));
    due(5 + 2, with(1, 1, "votes minute+5+[side+3]").chance(0, 0, 0));
    x = with(3, 7, "votes hunger if hour<20;votes hour if hour=20;votes kind*10+salt if hour=21;votes mild if hour=22");
    x.meal(2, 4);
    due(20 + 2 * 3, x.chance(2, 3, 0));
    due(0, x.chance(2, 4, 0));
    due(6, x.chance(2, 7, 0));
    due(20, x.chance(2, 20, 0));
    due(56, x.chance(2, 21, 0));
    due(7, x.chance(2, 22, 0));
    due(50, x.chance(2, 23, 0));
    x = with(1, 1, "votes 30+rain");
    due(30, x.chance(0, 0, 0));
    x.terms(2, 1);
    due(31, x.chance(0, 0, 0));

    promise = 18;
    x = with(3, 7, "price beast*100+side*10+favour+hour*2");
    x.terms(1, 4);
    x.put(2, 5, 3);
    due(221, x.price(2, 1));
    due(211, x.price(2, 0));
    due(108, x.price(1, 0));
    due(NONE, x.price(3, 0));
    due(NONE, x.price(-1, 0));
    due(NONE, x.price(0, 2));
    due(NONE, x.price(0, -1));
    due(10, with(1, 1, "").price(0, 0));
    due(10, with(1, 1, "votes 5").price(0, 0));
    due(999, with(1, 1, "price 1000").price(0, 0));
    due(0, with(1, 1, "price 5-6").price(0, 0));
    due(7, sum("1+2*3"));
    due(9, sum("[1+2]*3"));
    due(4, sum("10-3-3"));
    due(2, sum("100/10/5"));
    due(6, sum("7/2*2"));
    due(7, sum("10+[0-7]/2"));
    due(8, sum("10+7/[0-3]"));
    due(999, sum("1000*1000*1000"));
    due(10, sum("1000*1000*1000+1"));
    due(10, sum("1000*1000*1000+1-1"));
    due(0, sum("0-1000*1000*1000"));
    due(10, sum("0-1000*1000*1000-1"));
    due(10, sum("1000*1000*1000*1000/1000"));
    due(10, sum("1/0"));
    due(10, sum("0/[side-1]"));
    isSo(true, "1<2");
    isSo(false, "2<2");
    isSo(false, "1>2");
    isSo(true, "2>1");
    isSo(false, "2>2");
    isSo(true, "beast=2 and kind=5 and salt=6 and mild=7 and hunger=20 and favour=0 and hour=0 and rain=0 and minute=0");
    isSo(true, "side=1");
    isSo(false, "1=2");
    isSo(true, "not 1=2");
    isSo(false, "not not 1=2");
    isSo(true, "1=1 or 1=2 and 1=2");
    isSo(false, "(1=1 or 1=2) and 1=2");
    isSo(true, "1=2 and 1=1 or 1=1");
    isSo(false, "not (1=2 or 1=1)");
    isSo(true, "not 1=2 or 1=1");
    isSo(true, "not 1=2 and 1=1");
    isSo(false, "not 1<2");
    isSo(false, "not 2>1");
    isSo(false, "not 7=7");
    isSo(true, "7=7 or 1/0=1");
    isSo(false, "7=7 and 1/0=1");
    isSo(true, "5<7 or 1/0=1");
    isSo(true, "7>5 or 1/0=1");
    isSo(false, "7=8 or 8=7");
    isSo(true, "1=1 or 1/0=1");
    isSo(false, "1/0=1 or 1=1");
    isSo(false, "1=2 or 1/0=1");
    isSo(false, "not (1=2 or 1/0=1)");
    isSo(true, "not (1=2 and 1/0=1)");
    isSo(false, "not 1/0=1");
    isSo(true, "1=2 and 1/0=1 or 1=1");
    isSo(false, "1=1 and 1/0=1 or 1=1");
    isSo(true, "1=2 or 1=1 or 1/0=1");
    isSo(false, "1=2 or 1=2 and 1/0=1");
  }

  private static void odds() {
    promise = 19;
    YardCourt x = with(3, 5, "votes 20+beast*30");
    due(10000 - 80 * 20, x.odds(NONE));
    due(1600, x.odds(0));
    due(20 * 20 + 80 * 80, x.odds(1));
    due(1600, x.odds(2));
    due(0, x.odds(3));
    due(0, x.odds(8));
    due(NONE, x.odds(9));
    due(NONE, x.odds(-2));
    x.terms(0, 3);
    due(0, x.odds(NONE));
    x = with(8, 255, "votes 100");
    x.terms(0, 8);
    due(10000000000000000L, x.odds(NONE));
    due(10000000000000000L, x.odds(8));
    x = with(1, 1, "votes hour*3+favour");
    x.terms(1, 5);
    x.put(0, 5, 2);
    due(17, x.odds(NONE));
    due(10, with(1, 1, "votes minute*50+10").odds(NONE));
    due(10, with(1, 1, "votes minute*50+10").bribed(0, 0));
    due(10, with(1, 1, "votes [side+1]*50+10").bribed(0, 0));
    due(13, with(1, 1, "price minute*50+13").price(0, 0));
    x.bench(0);
    due(0, x.odds(NONE));
    due(1, x.odds(0));

    promise = 20;
    x = with(3, 7, "votes 20+beast*30");
    due(50 * 20, x.tips(0));
    due(80 * 20, x.tips(1));
    due(80 * 50, x.tips(2));
    x.terms(0, 2);
    due(50 * 80 + 50 * 20, x.tips(0));
    x.terms(0, 4);
    due(0, x.tips(0));
    x.terms(0, 1);
    x.bench(2);
    due(1, x.tips(1));
    due(NONE, x.tips(0));
    due(NONE, x.tips(3));
    due(NONE, x.tips(-1));
    due(NONE, x.tips(32));
  }

  private static final String SWAY = "votes 50;votes 80 if favour=1;votes 20 if favour=2;price 5+beast*5";

  private static void bribes() {
    promise = 21;
    YardCourt x = with(3, 3, SWAY);
    x.terms(3, 14);
    x.terms(4, 15);
    due(7500, x.bribed(0, 0));
    due(9000, x.bribed(1, 0));
    due(9000, x.bribed(2, 0));
    due(NONE, x.bribed(3, 0));
    due(10000 - 80 * 80, x.bribed(0, 3));
    due(10000 - 50 * 80, x.bribed(1, 3));
    due(NONE, x.bribed(4, 0));
    due(NONE, x.bribed(0, 4));
    due(NONE, x.bribed(-1, 0));
    due(NONE, x.bribed(0, 256));
    x.put(0, 5, 1);
    due(10000 - 50 * 50, x.bribed(0, 1));
    due(9000, x.bribed(1, 0));

    promise = 22;
    x = with(3, 7, SWAY);
    x.terms(3, 15);
    x.terms(4, 10);
    due(3, x.reply(0, 0, 0));
    due(15, x.reply(0, 0, 1));
    due(1, x.reply(1, 0, 0));
    due(5, x.reply(1, 0, 1));
    x.terms(3, 10);
    due(1, x.reply(0, 0, 0));
    due(NONE, x.reply(1, 4, 0));
    due(NONE, x.reply(2, 0, 0));
    due(NONE, x.reply(-1, 0, 0));
    due(NONE, x.reply(0, 0, 2));
    due(NONE, x.reply(0, 0, -1));
    due(NONE, x.reply(0, 8, 0));
    due(NONE, x.reply(0, -1, 0));
    x = with(3, 7, "votes 50+favour;price 4");
    x.terms(3, 4);
    due(1, x.reply(0, 0, 0));
    x = with(2, 3, "votes 30;price 0");
    due(0, x.reply(0, 0, 0));
    due(0, x.reply(0, 0, 1));
    x = with(2, 3, "votes 30+favour*10;price 9-beast");
    x.terms(3, 9);
    x.terms(4, 9);
    due(2, x.reply(0, 0, 0));
    due(8, x.reply(0, 0, 1));
    x.terms(3, 17);
    due(3, x.reply(0, 0, 0));
    due(17, x.reply(0, 0, 1));
    due(0, x.reply(1, 0, 0));

    promise = 23;
    x = with(3, 7, SWAY);
    x.terms(0, 2);
    x.terms(3, 10);
    x.terms(4, 15);
    due(1, x.sure(0, 0));
    due(5, x.sure(0, 1));
    due(3, x.sure(1, 0));
    due(15, x.sure(1, 1));
    due(NONE, x.sure(2, 0));
    due(NONE, x.sure(-1, 0));
    due(NONE, x.sure(0, 2));
    due(NONE, x.sure(0, -1));
    YardCourt y = with(2, 3, "votes 30;votes 40 if favour=1;votes 35 if favour=3;price 9-beast");
    y.terms(3, 9);
    due(2, y.sure(0, 0));
    due(8, y.sure(0, 1));
    y.terms(3, 17);
    due(3, y.sure(0, 0));
    due(0, y.sure(1, 0));
    y.terms(4, 8);
    due(2, y.sure(1, 0));
    due(8, y.sure(1, 1));
    y = with(2, 3, "votes 30;price 9-beast");
    y.terms(3, 9);
    due(0, y.sure(0, 0));
    y = with(2, 3, "votes 30+favour;price 3");
    y.terms(3, 3);
    due(1, y.sure(0, 0));

    promise = 24;
    due(350000, x.value(0));
    due(350000, x.value(1));
    x.terms(3, 0);
    // SIDE 1 bribes the first two: .2, .2, .5, two of three votes.
    due(20 * 20 * 50 + 20 * 20 * 50 + 2 * 20 * 80 * 50, x.value(0));
    due(NONE, x.value(2));
    due(NONE, x.value(-1));
    x = with(1, 1, "votes 10+beast;votes 60 if favour=1;votes 5 if favour=3;votes 40 if favour=2;price 1");
    x.terms(3, 1);
    x.terms(4, 1);
    due(10, x.value(0));
    due(40, x.value(1));
    due(0, x.sure(0, 0));
    due(1, x.sure(1, 0));

    promise = 25;
    due(0, x.saddle(2));
    due(NONE, x.saddle(0));
    due(NONE, x.saddle(1));
    due(NONE, x.saddle(3));
    due(NONE, x.saddle(-1));
    x = with(3, 7, SWAY);
    x.terms(0, 2);
    x.terms(3, 10);
    x.terms(4, 15);
    due(2, x.saddle(2));
    due(1, x.saddle(0));
    due(3, x.saddle(1));
    due(NONE, x.saddle(3));
    due(NONE, x.saddle(-1));
    x = with(3, 7, "votes 40;price 0");
    due(64, x.saddle(2));
    due(0, x.saddle(0));
    due(0, x.saddle(1));
    x = new YardCourt();
    due(1, x.saddle(2));
    due(0, x.saddle(0));
    due(0, x.saddle(1));
    due(0, x.value(0));
    due(0, x.value(1));
    due(0, x.sure(1, 0));
  }

  private static void enoughAndBribe() {
    promise = 26;
    YardCourt x = with(3, 3, SWAY);
    x.terms(3, 15);
    x.terms(4, 5);
    due(0, x.enough(0, 0, 0));
    due(0, x.enough(0, 750000, 0));
    due(1, x.enough(0, 750001, 0));
    due(5, x.enough(0, 900000, 1));
    due(3, x.enough(0, 900001, 0));
    due(15, x.enough(0, 960000, 1));
    due(NONE, x.enough(0, 960001, 0));
    due(0, x.enough(1, 250000, 0));
    due(1, x.enough(1, 250001, 0));
    due(1, x.enough(1, 400000, 0));
    due(NONE, x.enough(1, 400001, 1));
    due(NONE, x.enough(2, 0, 0));
    due(NONE, x.enough(-1, 0, 0));
    due(NONE, x.enough(0, -1, 0));
    due(NONE, x.enough(0, 1000001, 0));
    due(NONE, x.enough(0, 0, 2));
    due(NONE, x.enough(0, 0, -1));
    x = with(8, 255, "votes 1");
    due(0, x.enough(0, 77255, 0));
    due(NONE, x.enough(0, 77256, 0));
    x = with(8, 255, "votes 100");
    due(0, x.enough(0, 1000000, 0));
    x = new YardCourt();
    due(0, x.enough(1, 1000000, 0));
    due(NONE, x.enough(0, 1, 0));
    x = with(2, 3, "votes 50+favour*10;price 3");
    x.terms(3, 3);
    due(1, x.enough(0, 760000, 0));

    promise = 27;
    x = with(3, 3, SWAY);
    x.terms(3, 15);
    x.terms(4, 4);
    due(-3, x.bribe(1, 1));
    due(-1, x.bribe(1, 4));
    due(-1, x.bribe(2, 0));
    due(-1, x.bribe(-1, 1));
    due(-1, x.bribe(0, -1));
    due(-1, x.bribe(0, 7));
    due(0, x.bribe(1, 0));
    due(0, x.status());
    due(10, x.bribe(0, 2));
    due(5, x.count(15));
    due(1, x.of(1, 5));
    due(0, x.of(0, 5));
    due(-3, x.bribe(0, 2));
    due(5, x.bribe(0, 1));
    due(0, x.count(15));
    x.terms(4, 999);
    due(15, x.bribe(1, 3));
    due(3, x.of(1, 5));
    due(984, x.count(16));
    due(5, x.bribe(1, 1));
    due(3, x.of(0, 5));
  }

  private static void steadyAndFair() {
    promise = 28;
    YardCourt x = with(3, 1, SWAY);
    x.terms(3, 5);
    x.terms(4, 5);
    due(2, x.steady(1, 0));
    due(2, x.steady(1, 1));
    due(6, x.steady(2, 0));
    due(1, x.steady(2, 1));
    due(7, x.steady(3, 0));
    due(1, x.steady(3, 1));
    due(NONE, x.steady(0, 0));
    due(NONE, x.steady(0, 1));
    due(NONE, x.steady(4, 0));
    due(NONE, x.steady(9, 0));
    due(NONE, x.steady(1, 2));
    due(NONE, x.steady(1, -1));
    due(NONE, new YardCourt().steady(1, 0));

    promise = 29;
    due(0, x.swing(1));
    due(0, x.swing(2));
    due(650000 - 350000, x.swing(3));
    due(NONE, x.swing(0));
    due(NONE, x.swing(4));
    x.terms(3, 10);
    x.terms(4, 10);
    due(80 * 50 - 20 * 50, x.swing(2));
    due(3, x.steady(2, 0));
    due(3, x.steady(2, 1));
    x.terms(0, 7);
    x.bench(0);
    due(3000, x.swing(2));
    x.terms(3, 0);
    x.terms(4, 0);
    due(0, x.swing(2));
    due(0, x.swing(1));
    due(1, x.steady(1, 0));
    due(3, x.steady(1, 1));
    x.terms(4, 999);
    due(50 - 20, x.swing(1));
    due(50 * 50 - 20 * 20, x.swing(2));

    promise = 30;
    due(0, x.fairest());
    x = with(1, 1, "votes hour*7");
    due(7, x.fairest());
    due(23, with(1, 1, "votes hour*2").fairest());
    due(23, with(1, 1, "votes hour*2+minute*40").fairest());
    x = with(2, 3, "votes 30;votes 71 if hour=9;votes 29 if hour=3");
    due(3, x.fairest());
    x.terms(0, 2);
    due(9, x.fairest());
    x = with(1, 1, "votes 40;votes 60 if hour=2;votes 45 if hour=7;votes 55 if hour=5");
    due(5, x.fairest());
    x = with(1, 1, "votes hunger");
    x.put(0, 1, 0);
    x.put(0, 2, 9);
    due(6, x.fairest());
    x.meal(0, 6);
    due(12, x.fairest());
    x.put(0, 2, 8);
    due(12, x.fairest());
    x.meal(0, 5);
    due(12, x.fairest());
    x.fast();
    due(6, x.fairest());
    x.put(0, 5, 3);
    enact(x, "votes hour*2*favour");
    due(8, x.fairest());
  }

  private static void cases() {
    promise = 31;
    YardCourt x = new YardCourt();
    due(-1, x.judged(2, 0, 0));
    due(-1, x.judged(-1, 0, 0));
    due(-1, x.judged(0, 256, 0));
    due(-1, x.judged(0, -1, 0));
    due(-1, x.judged(0, 1, 2));
    due(-1, x.judged(0, 1, -1));
    due(1, x.judged(0, 0, 0));
    due(2, x.judged(1, 255, 255));
    for (int k = 3; k <= 20; k++) due(k, x.judged(0, 3, 1));
    due(-5, x.judged(0, 3, 1));
    due(-1, x.judged(2, 3, 1));

    promise = 32;
    due(-2, x.annul(20));
    due(-2, x.annul(-1));
    due(19, x.annul(1));
    due(0, x.right(7, 1));
    due(18, x.annul(18));
    due(-2, x.annul(18));
    x = new YardCourt();
    x.judged(0, 1, 1);
    x.judged(0, 2, 2);
    x.judged(0, 4, 4);
    due(2, x.annul(0));
    due(0, x.right(0, 0));
    due(1, x.right(1, 0));
    due(1, x.annul(0));
    due(0, x.right(1, 0));
    due(1, x.right(2, 0));
    due(0, x.annul(0));
    due(-2, x.annul(0));
    x.judged(0, 1, 1);
    x.judged(1, 2, 0);
    x.judged(0, 4, 0);
    x.annul(0);
    due(1, x.right(1, 0));
    due(0, x.right(1, 1));
    due(1, x.right(2, 1));

    promise = 33;
    x = new YardCourt();
    x.judged(0, 3, 1);
    x.judged(1, 7, 1);
    x.judged(1, 131, 128);
    x.judged(0, 0, 0);
    due(2, x.right(0, 0));
    due(1, x.right(0, 1));
    due(2, x.right(1, 0));
    due(1, x.right(1, 1));
    due(0, x.right(7, 0));
    due(1, x.right(7, 1));
    due(0, x.right(6, 0));
    due(0, x.right(6, 1));
    due(2, x.right(NONE, 0));
    x.annul(0);
    due(2, x.right(NONE, 0));
    x.annul(0);
    due(1, x.right(NONE, 0));
    x = new YardCourt();
    x.judged(0, 3, 1);
    x.judged(1, 7, 1);
    x.judged(1, 131, 128);
    x.judged(0, 0, 0);
    due(NONE, x.right(NONE, 1));
    due(NONE, x.right(8, 0));
    due(NONE, x.right(-2, 0));
    due(NONE, x.right(0, 2));
    due(NONE, x.right(0, -1));

    promise = 34;
    due(3, x.agree(0, 1, 0));
    due(1, x.agree(0, 1, 1));
    due(1, x.agree(1, 7, 0));
    due(0, x.agree(7, 1, 1));
    due(1, x.agree(2, 1, 1));
    due(3, x.agree(1, 0, 0));
    due(1, x.agree(1, 0, 1));
    x.judged(0, 24, 16);
    x.judged(0, 24, 8);
    x.judged(0, 24, 24);
    due(3, x.agree(3, 4, 0));
    due(1, x.agree(3, 4, 1));
    due(0, x.agree(2, 7, 0));
    due(NONE, x.agree(8, 0, 0));
    due(NONE, x.agree(0, 8, 0));
    due(NONE, x.agree(-1, 0, 0));
    due(NONE, x.agree(0, -1, 0));
    due(NONE, x.agree(0, 1, 2));
    due(NONE, x.agree(0, 1, -1));
  }

  private static void proofs() {
    promise = 35;
    YardCourt x = new YardCourt();
    x.judged(0, 3, 1);
    x.judged(0, 1, 1);
    x.judged(1, 2, 0);
    due(1, x.again(0, 0));
    due(2, x.again(0, 1));
    due(2, x.again(1, 0));
    due(3, x.again(1, 1));
    due(2, x.again(2, 0));
    due(3, x.again(2, 1));
    x.terms(5, 20);
    due(1, x.again(1, 0));
    due(3, x.again(1, 1));
    x.terms(5, 0);
    due(0, x.again(1, 0));
    due(1, x.again(1, 1));
    due(NONE, x.again(3, 0));
    due(NONE, x.again(-1, 0));
    due(NONE, x.again(0, 2));
    due(NONE, x.again(0, -1));

    promise = 36;
    x = with(4, 0, "");
    due(0, x.trusted(0));
    due(3, x.trusted(3));
    x.judged(0, 255, 246);
    due(1, x.trusted(0));
    due(2, x.trusted(1));
    due(0, x.trusted(2));
    due(3, x.trusted(3));
    x.judged(0, 12, 12);
    due(2, x.trusted(0));
    due(1, x.trusted(1));
    due(3, x.trusted(2));
    due(0, x.trusted(3));
    due(NONE, x.trusted(4));
    due(NONE, x.trusted(-1));
    due(NONE, new YardCourt().trusted(0));

    promise = 37;
    x = new YardCourt();
    due(1, x.proof(0, 0, 0));
    due(2, x.proof(0, 0, 1));
    x.terms(5, 20);
    due(1, x.proof(255, 7, 0));
    due(5, x.proof(255, 7, 1));
    x.judged(0, 1, 1);
    due(1, x.proof(1, 1, 0));
    due(3, x.proof(1, 1, 1));
    due(1, x.proof(1, 0, 0));
    due(9, x.proof(1, 0, 1));
    x.terms(5, 100);
    due(1, x.proof(1, 0, 0));
    due(1, x.proof(1, 0, 1));
    x.terms(5, 0);
    due(0, x.proof(1, 0, 0));
    due(1, x.proof(1, 0, 1));
    due(NONE, x.proof(256, 0, 0));
    due(NONE, x.proof(-1, 0, 0));
    due(NONE, x.proof(1, 2, 0));
    due(NONE, x.proof(1, 1, 2));
    due(NONE, x.proof(1, 1, -1));
    x = new YardCourt();
    for (int k = 0; k < 20; k++) x.judged(0, 255, 255);
    x.terms(5, 99);
    due(99L * 37822859361L, x.proof(255, 255, 0));
    due(99L * 37822859361L + 1, x.proof(255, 255, 1));
  }

  private static void appeals() {
    promise = 38;
    YardCourt x = with(1, 1, "votes 33");
    due(330000, x.appeal(1));
    due(254826, x.appeal(3));
    due(appealOf5(33) / 10000, x.appeal(5));
    due(NONE, x.appeal(0));
    due(NONE, x.appeal(2));
    due(NONE, x.appeal(4));
    due(NONE, x.appeal(6));
    due(NONE, x.appeal(7));
    due(NONE, x.appeal(-1));
    x = with(8, 255, "votes 100");
    due(1000000, x.appeal(1));
    due(1000000, x.appeal(3));
    due(1000000, x.appeal(5));
    x = with(8, 255, "votes 99");
    due(999999, x.appeal(5));
    x = with(8, 255, "votes 0");
    due(0, x.appeal(5));
    x = with(2, 3, "votes 7");
    due(135100, x.appeal(1));
    due(0, new YardCourt().appeal(5));
  }

  private static long appealOf5(long p) {
    long q = 100 - p;
    return p * p * p * (p * p + 5 * p * q + 10 * q * q);
  }

  private static void sittings() {
    promise = 39;
    YardCourt x = with(2, 3, "lies 100;votes 100");
    due(0, x.sitting(0));
    due(0, x.sitting(1000000));
    due(-1, x.sitting(1000001));
    due(-1, x.sitting(-1));
    x.terms(0, 3);
    due(1, x.sitting(0));
    due(0, x.lay(NONE, 0));
    x = with(2, 3, "lies 0;lies 100 if minute>59");
    due(2, x.sitting(0));
    due(59, x.lay(NONE, 0));
    due(NONE, x.lay(0, 0));
    x = with(2, 3, "lies 100;votes 100;price 0");
    due(0, x.sitting(0));
    due(0, x.lay(NONE, 0));
    x = with(2, 3, "lies 100 if minute=7;lies 0 if minute<7;votes 100 if minute=7;votes 0 if not minute=7");
    due(0, x.sitting(3));
    // By SEED 0 s becomes 12345, then 628841: the draws are 45 and 41.
    x = with(1, 1, "lies 46;votes 41");
    due(1, x.sitting(0));
    x = with(1, 1, "lies 46;votes 42");
    due(0, x.sitting(0));
    due(0, x.lay(NONE, 1));
    x = with(1, 1, "lies 45;votes 42;lies 42 if minute=1");
    x.sitting(0);
    due(1, x.lay(0, 1));

    promise = 40;
    x = with(3, 5, "lies 100 if minute=beast*2;lies 0 if not minute=beast*2;votes 100-beast*50");
    x.terms(0, 2);
    due(NONE, x.lay(0, 0));
    due(NONE, x.lay(NONE, 0));
    int won = x.sitting(11);
    due(0, x.lay(0, 0));
    due(0, x.lay(0, 1));
    due(NONE, x.lay(1, 0));
    due(NONE, x.lay(1, 1));
    due(won == 0 ? 0 : 1, x.lay(2, 0));
    due(1, x.lay(2, 0));
    due(4, x.lay(2, 1));
    due(4, x.lay(NONE, 0));
    due(4, x.lay(NONE, 1));
    due(NONE, x.lay(NONE, 2));
    due(NONE, x.lay(NONE, -1));
    due(NONE, x.lay(0, 2));
    due(NONE, x.lay(0, -1));
    due(NONE, x.lay(3, 0));
    due(NONE, x.lay(8, 0));
    due(NONE, x.lay(-2, 0));
    due(-1, x.sitting(-1));
    due(4, x.lay(NONE, 0));
    x.bench(2);
    due(0, x.lay(0, 0));
    x.terms(0, 1);
    x.sitting(5);
    due(NONE, x.lay(0, 0));
    due(2, x.lay(1, 1));
  }

  private static void images() {
    promise = 41;
    YardCourt x = with(2, 3, "votes 10");
    due(0, x.image(0));
    due(0, x.image(1));
    due(-1, x.image(2));
    due(-1, x.image(-1));
    due(-1, x.status());

    promise = 42;
    x = with(2, 3, "votes 10");
    x.meal(0, 3);
    x.put(0, 5, 2);
    x.judged(1, 3, 1);
    x.terms(3, 70);
    due(-1, x.back(2));
    due(-1, x.back(-1));
    due(-2, x.back(0));
    x.image(0);
    x.beast(9, 9, 9, 9, 9);
    x.meal(2, 1);
    x.fast();
    x.put(0, 0, 7);
    x.bribe(0, 1);
    x.annul(0);
    x.judged(0, 1, 0);
    x.judged(0, 1, 0);
    enact(x, "votes 20;lies 100");
    x.bench(1);
    x.terms(0, 5);
    x.sitting(4);
    due(-2, x.back(1));
    x.image(1);
    write(x, "votes");
    x.law();
    write(x, "\u0003\u0003\u0003\u0003");
    x.row();
    x.feed(0, 0, 0, 0, 0);
    int minusTwos = x.count(7);
    due(0, x.back(0));
    due(2, x.count(0));
    due(1, x.count(1));
    due(1, x.count(2));
    due(1, x.count(3));
    due(2, x.count(4));
    due(20, x.count(5));
    due(minusTwos, x.count(7));
    due(0, x.count(11));
    due(1, x.count(12));
    due(70, x.count(15));
    due(3, x.of(0, 0));
    due(2, x.of(0, 5));
    due(0, x.hunger(0, 3));
    due(1, x.right(1, 0));
    due(10, x.chance(0, 0, 0));
    due(1900, x.odds(NONE));
    due(5, x.fault());
    due(2, x.quashed());
    due(0, x.lay(NONE, 0));
    x.end(0);
    enact(x, "votes 30");
    due(30, x.chance(0, 0, 0));
    due(2, x.beast(0, 5, 0, 0, 0));
    due(5, x.hunger(2, 1));
    due(0, x.back(1));
    due(20, x.chance(0, 0, 0));
    due(7, x.of(0, 0));
    due(3, x.count(0));
    due(9, x.of(2, 0));
    due(60, x.count(15));
    due(0, x.back(0));
    due(10, x.chance(0, 0, 0));
    due(-2, x.force(1));
    due(2, x.count(0));
    x = new YardCourt();
    x.beast(0, 0, 0, 0, 0);
    x.image(0);
    enact(x, "votes 11");
    x.image(1);
    x.back(0);
    due(50, x.chance(0, 0, 0));
    enact(x, "votes 12");
    due(12, x.chance(0, 0, 0));
    x.image(0);
    x.back(1);
    due(11, x.chance(0, 0, 0));
    x.back(0);
    due(12, x.chance(0, 0, 0));
  }

  private static void counts() {
    promise = 43;
    YardCourt x = with(3, 5, "votes 10");
    x.meal(0, 0);
    x.meal(0, 1);
    x.judged(0, 1, 1);
    x.feed(0, 0, 0, 0, 0);
    x.end(19);
    x.terms(0, 2);
    x.terms(1, 3);
    x.terms(2, 1);
    x.terms(3, 5);
    x.terms(4, 6);
    x.terms(5, 7);
    int[] all = {3, 2, 1, 1, 2, 19, 0, 0, 0, 0, 0, 0, 2, 3, 1, 5, 6, 7};
    for (int i = 0; i < all.length; i++) due(all[i], x.count(i));
    due(NONE, x.count(18));
    due(NONE, x.count(-1));
    x.bench(256);
    x.put(9, 0, 0);
    x.put(9, 0, 0);
    for (int k = 0; k < 3; k++) x.bribe(0, 1);
    for (int k = 0; k < 24; k++) x.meal(0, 0);
    for (int k = 0; k < 3; k++) x.meal(0, 0);
    for (int k = 0; k < 6; k++) x.law();
    due(1, x.count(6));
    due(2, x.count(7));
    due(3, x.count(8));
    due(5, x.count(9));
    due(6, x.count(10));
    x.of(9, 9);
    x.end(-1);
    x.odds(-2);
    x.appeal(2);
    x.lay(9, 9);
    due(1, x.count(6));

    promise = 44;
    x = new YardCourt();
    due(0, x.status());
    int[] refusals = {x.beast(-1, 0, 0, 0, 0), x.status(), x.put(0, 0, 0), x.status(), x.put(0, 9, 0), x.status(),
      x.meal(0, 0), x.status(), x.meal(0, -1), x.status(), x.bench(1), x.status(), x.row(), x.status(),
      x.terms(9, 9), x.status(), x.law(), x.status(), x.force(0), x.status(), x.bribe(2, 0), x.status(),
      x.judged(2, 0, 0), x.status(), x.annul(0), x.status(), x.sitting(-1), x.status(), x.back(0), x.status(),
      x.image(2), x.status(), x.back(2), x.status()};
    int[] by = {-1, -2, -1, -2, -1, -1, -6, -1, -6, -2, -1, -1, -2, -1, -2, -1, -1};
    for (int i = 0; i < by.length; i++) {
      due(by[i], refusals[2 * i]);
      due(by[i], refusals[2 * i + 1]);
    }
    x.of(0, 0);
    x.fast();
    x.feed(0, 0, 0, 0, 0);
    x.end(99);
    due(-1, x.status());
    int[] calls = {x.image(0), x.status(), refused(x), x.back(0), x.status(), refused(x), x.beast(0, 0, 0, 0, 0),
      x.status(), refused(x), x.put(0, 0, 5), x.status(), refused(x), x.meal(0, 0) - 1, x.status(), refused(x),
      x.bench(1), x.status(), refused(x), x.terms(2, 1), x.status(), refused(x), x.row() - 6, x.status(), refused(x),
      x.force(NONE) + 1, x.status(), refused(x), x.bribe(0, 0), x.status(), refused(x), x.judged(0, 0, 0) - 7,
      x.status(), refused(x), x.annul(0) - 6, x.status(), refused(x), x.sitting(0) * 0, x.status(), refused(x)};
    for (int call : calls) due(0, call);
    write(x, "votes 1");
    due(0, x.law());
    due(0, x.status());
    x.terms(3, 0);
    due(-3, x.bribe(0, 1));
    due(-3, x.status());
    for (int k = 1; k < 8; k++) x.beast(0, 0, 0, 0, 0);
    due(-5, x.beast(0, 0, 0, 0, 0));
    due(-5, x.status());
  }

  /** A refused call between others, so that a status of 0 behind it is news. */
  private static int refused(YardCourt x) {
    x.image(9);
    return x.status() + 1;
  }

  public static void main(String[] args) {
    beasts();
    meals();
    benchAndTerms();
    tape();
    laws();
    asking();
    odds();
    bribes();
    enoughAndBribe();
    steadyAndFair();
    cases();
    proofs();
    appeals();
    sittings();
    images();
    counts();
    System.out.println(asked + " answers, " + wrong + " not as due");
    if (wrong != 0) System.exit(1);
  }
}
