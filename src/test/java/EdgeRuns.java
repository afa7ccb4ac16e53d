import java.io.IOException;
import java.math.BigInteger;
import java.nio.file.Files;
import java.nio.file.Path;
import java.util.ArrayList;
import java.util.List;
import java.util.Set;
import java.util.TreeSet;

/** Each sentence of the document that names a boundary case, quoted, with a test of its own. */
public final class EdgeRuns {
  private static final int NONE = YardCourt.NONE;
  private static final int MIN = Integer.MIN_VALUE;
  private static final int MAX = Integer.MAX_VALUE;

  private static final Set<Integer> PROMISES = new TreeSet<>();
  private static String document = "";
  private static String quote = "";
  private static int sentences = 0;
  private static int askedHere = 0;
  private static int asked = 0;
  private static int wrong = 0;

  /** One call of the class. */
  private interface Call {
    long on(YardCourt x);
  }

  // What the tests are written with.

  private static void fault(String what) {
    wrong++;
    System.out.println("\"" + quote + "\": " + what);
  }

  private static int testLine() {
    int line = 0;
    for (StackTraceElement at : new Throwable().getStackTrace()) {
      if (at.getClassName().equals("EdgeRuns") && !at.getMethodName().equals("main")) line = at.getLineNumber();
    }
    return line;
  }

  /** The next answers belong to this sentence; the one before must have had some. */
  private static void sentence(String next) {
    if (sentences > 0 && askedHere == 0) fault("has no test");
    quote = next;
    sentences++;
    askedHere = 0;
    if (!document.isEmpty() && !document.contains(next)) fault("is not in the document");
  }

  private static void promise(int number, String next) {
    PROMISES.add(number);
    sentence(next);
  }

  private static void due(long want, long got) {
    asked++;
    askedHere++;
    if (got != want) fault("line " + testLine() + ": answered " + got + ", due is " + want);
  }

  private static void dueSame(String want, String got) {
    asked++;
    askedHere++;
    if (!got.equals(want)) fault("line " + testLine() + ":\n  now " + got + "\n  due " + want);
  }

  /** Puts a text alone on the tape. */
  private static void write(YardCourt x, String text) {
    x.end(0);
    StringBuilder padded = new StringBuilder(text);
    while (padded.length() % 20 != 0) padded.append('#');
    for (int i = 0; i < padded.length(); i += 20) {
      int[] five = new int[5];
      for (int k = 0; k < 20; k++) five[k / 4] = five[k / 4] << 8 | padded.charAt(i + k);
      x.feed(five[0], five[1], five[2], five[3], five[4]);
    }
    x.end(text.length());
  }

  private static void writeCases(YardCourt x, int... bytes) {
    StringBuilder text = new StringBuilder();
    for (int b : bytes) text.append((char) b);
    write(x, text.toString());
  }

  private static int enact(YardCourt x, String text) {
    write(x, text);
    int law = x.law();
    if (law < 0) fault("line " + testLine() + ": no law: " + text + " (" + law + ", fault at " + x.fault() + ")");
    x.force(law);
    return law;
  }

  /** So many beasts, alike but for their numbers, so many of them on the bench, and a law in force. */
  private static YardCourt court(int beasts, int bench, String law) {
    YardCourt x = new YardCourt();
    for (int b = 0; b < beasts; b++) x.beast(1, 2, 3, 4, 5);
    x.bench(bench);
    if (!law.isEmpty()) enact(x, law);
    return x;
  }

  private static YardCourt purses(YardCourt x, int zero, int one) {
    x.terms(3, zero);
    x.terms(4, one);
    return x;
  }

  /** Where a text has its fault, by law(), which must be refused just then. */
  private static int faultOf(String text) {
    YardCourt x = new YardCourt();
    write(x, text);
    int law = x.law();
    boolean whole = law == 0 && x.fault() == NONE && x.count(2) == 1;
    boolean refused = law == -6 && x.fault() != NONE && x.count(2) == 0 && x.status() == -6;
    if (!whole && !refused) fault("line " + testLine() + ": law() answered " + law + " with fault " + x.fault());
    return x.fault();
  }

  private static final int BROKEN = 10;

  /** What a sum of 0 .. 999 is, BROKEN for a broken one. */
  private static int sumOf(String sum) {
    return court(1, 1, "price " + sum).price(0, 1);
  }

  private static final int SO = 1;
  private static final int NOT_SO = 2;

  /** If a test is so, not so, or broken (by this and its contrary). */
  private static int testOf(String test) {
    int yes = court(1, 1, "price 1 if " + test).price(0, 1);
    int no = court(1, 1, "price 2 if not (" + test + ")").price(0, 1);
    return yes == SO ? SO : no == NOT_SO ? NOT_SO : BROKEN;
  }

  /** All that can be asked without a change, but for the status and the refusals. */
  private static String kept(YardCourt x) {
    StringBuilder all = new StringBuilder();
    for (int what : new int[] {0, 1, 2, 3, 4, 11, 12, 13, 14, 15, 16, 17}) all.append(x.count(what)).append(' ');
    for (int b = 0; b < 8; b++) {
      all.append("| ");
      for (int what = 0; what < 6; what++) all.append(x.of(b, what)).append(' ');
      all.append(x.hunger(b, 0)).append(' ').append(x.hunger(b, 23)).append(' ').append(x.chance(b, 1, 2)).append(' ');
      all.append(x.price(b, 0)).append(' ').append(x.right(b, 0)).append(' ').append(x.right(b, 1)).append(' ');
      all.append(x.trusted(b)).append(' ').append(x.tips(b)).append(' ');
    }
    all.append("| ").append(x.odds(NONE)).append(' ').append(x.saddle(2)).append(' ').append(x.right(NONE, 0));
    for (int c = 0; c < 4; c++) all.append(' ').append(x.again(c, 0)).append(' ').append(x.again(c, 1));
    return all.toString();
  }

  /** What images do not keep, but for the status and the refusals. */
  private static String unkept(YardCourt x) {
    StringBuilder all = new StringBuilder().append(x.count(5)).append(' ').append(x.fault()).append(' ').append(x.quashed());
    for (int b = NONE; b < 8; b++) all.append(' ').append(x.lay(b, 0)).append(' ').append(x.lay(b, 1));
    return all.toString();
  }

  private static String refusals(YardCourt x) {
    StringBuilder all = new StringBuilder();
    for (int what = 6; what <= 10; what++) all.append(x.count(what)).append(' ');
    return all.toString();
  }

  /** A court in which something of everything stands. */
  private static YardCourt rich() {
    YardCourt x = new YardCourt();
    for (int b = 0; b < 4; b++) x.beast(b + 1, 20 * b, b + 2, 9 - b, b);
    x.bench(7);
    x.meal(0, 3);
    x.meal(1, 0);
    x.put(2, 5, 2);
    enact(x, "votes 40+beast*5");
    enact(x, "votes 40+beast*9;votes 80 if favour=1;lies 60+minute;price 20+beast");
    x.terms(0, 2);
    purses(x, 45, 22);
    x.judged(0, 7, 3);
    x.judged(1, 13, 5);
    writeCases(x, 0, 3, 2, 9);
    x.row();
    write(x, "votes ?");
    x.law();
    x.image(0);
    x.sitting(77);
    x.feed(1, 2, 3, 4, 5);
    return x;
  }

  /** The call is refused by that number, is told so and counted once, and changes nothing else. */
  private static void refused(int by, YardCourt x, Call call) {
    String before = kept(x) + unkept(x);
    int[] counts = new int[11];
    for (int what = 6; what <= 10; what++) counts[what] = x.count(what);
    due(by, call.on(x));
    due(by, x.status());
    int told = by == -1 ? 6 : by == -2 ? 7 : by == -3 ? 8 : by == -5 ? 9 : 10;
    for (int what = 6; what <= 10; what++) due(counts[what] + (what == told ? 1 : 0), x.count(what));
    dueSame(before, kept(x) + unkept(x));
  }

  private static void refused(int by, Call call) {
    refused(by, rich(), call);
  }

  /** The call answers NONE, which is no refusal: neither the status nor anything else changes. */
  private static void none(YardCourt x, Call call) {
    x.annul(99);
    String before = kept(x) + unkept(x) + refusals(x);
    due(NONE, call.on(x));
    due(-2, x.status());
    dueSame(before, kept(x) + unkept(x) + refusals(x));
  }

  private static void none(Call call) {
    none(rich(), call);
  }

  private static void noneOf(int[] values, java.util.function.IntFunction<Call> calls) {
    for (int value : values) none(calls.apply(value));
  }

  private static void refusedOf(int by, int[] values, java.util.function.IntFunction<Call> calls) {
    for (int value : values) refused(by, calls.apply(value));
  }

  // Terms I.

  private static void trait(String next, int what, int most) {
    sentence(next);
    for (int value : new int[] {0, most}) {
      int[] t = new int[5];
      t[what] = value;
      YardCourt x = new YardCourt();
      due(0, x.beast(t[0], t[1], t[2], t[3], t[4]));
      due(value, x.of(0, what));
      due(value, x.put(0, what, most - value));
      due(most - value, x.of(0, what));
    }
    for (int value : new int[] {-1, most + 1, MIN, MAX}) {
      int[] t = new int[5];
      t[what] = value;
      refused(-1, x -> x.beast(t[0], t[1], t[2], t[3], t[4]));
      refused(-1, x -> x.put(0, what, value));
    }
  }

  private static void traits() {
    sentence("BEASTS 0 .. 7 (8 at most)");
    YardCourt x = new YardCourt();
    for (int b = 0; b < 8; b++) due(b, x.beast(b, b, b, b, b));
    due(-5, x.beast(0, 0, 0, 0, 0));
    due(7, x.of(7, 0));
    due(NONE, x.of(8, 0));
    trait("KIND 0 .. 9", 0, 9);
    trait("HUNGRY 0 .. 99 (in HOUR 0)", 1, 99);
    x = new YardCourt();
    x.beast(0, 99, 9, 0, 0);
    due(99, x.hunger(0, 0));
    trait("GROWS 0 .. 9 (each HOUR)", 2, 9);
    trait("SALT 0 .. 9", 3, 9);
    trait("MILD 0 .. 9", 4, 9);
    sentence("FAVOURS of a BEAST: 0 none, 1 SIDE 0's, 2 SIDE 1's, 3 both.");
    x = purses(court(2, 3, ""), 99, 99);
    due(0, x.of(0, 5));
    x.bribe(0, 1);
    due(1, x.of(0, 5));
    x.bribe(1, 2);
    due(2, x.of(1, 5));
    x.bribe(1, 1);
    due(3, x.of(0, 5));
    due(3, x.put(0, 5, 0));
    due(0, x.put(0, 5, 3));
    refusedOf(-1, new int[] {-1, 4, MIN, MAX}, v -> c -> c.put(0, 5, v));
  }

  private static void hunger() {
    sentence("MEALS, 24 at most: of a BEAST in an HOUR 0 .. 23.");
    YardCourt x = court(2, 0, "");
    for (int k = 1; k <= 24; k++) due(k, x.meal(k % 2, k - 1));
    due(-5, x.meal(0, 0));
    due(24, x.count(1));
    refusedOf(-1, new int[] {-1, 24, MIN, MAX}, v -> c -> c.meal(0, v));
    sentence("GROWS times HOURS since its latest MEAL till then (that HOUR: 0), else HUNGRY and GROWS times the HOUR; 99 at most.");
    x = new YardCourt();
    x.beast(0, 30, 3, 0, 0);
    due(30, x.hunger(0, 0));
    due(30 + 3 * 22, x.hunger(0, 22));
    due(99, x.hunger(0, 23));
    x.put(0, 1, 31);
    due(31 + 3 * 22, x.hunger(0, 22));
    due(99, x.hunger(0, 23));
    x.meal(0, 23);
    due(97, x.hunger(0, 22));
    due(0, x.hunger(0, 23));
    x.meal(0, 0);
    due(0, x.hunger(0, 0));
    due(3, x.hunger(0, 1));
    due(66, x.hunger(0, 22));
    due(0, x.hunger(0, 23));
    x.meal(0, 5);
    x.meal(0, 2);
    due(6, x.hunger(0, 7));
    due(6, x.hunger(0, 4));
    due(3, x.hunger(0, 1));
    x.put(0, 2, 9);
    due(90, x.hunger(0, 15));
    due(99, x.hunger(0, 16));
    due(99, x.hunger(0, 17));
    due(99, x.hunger(0, 22));
    x.put(0, 2, 0);
    due(0, x.hunger(0, 22));
    x.fast();
    due(31, x.hunger(0, 22));
  }

  private static void benchAndTerms() {
    sentence("The BENCH: BEASTS as bits (none at first).");
    YardCourt x = new YardCourt();
    due(0, x.count(4));
    due(0, x.bench(0));
    for (int b = 0; b < 8; b++) x.beast(0, 0, 0, 0, 0);
    due(0, x.bench(255));
    due(8, x.count(4));
    due(255, x.bench(128));
    due(1, x.count(4));
    due(1, x.tips(7));
    due(NONE, x.tips(6));
    sentence("TERMS: 0 QUOTA 1 .. 8 (1 at first), 1 HOUR 0 .. 23 (0), 2 RAIN 0 or 1 (0), 3, 4 PURSE of SIDE 0, 1: 0 .. 999 (0 both), 5 PRIOR 0 .. 100 (50).");
    int[] low = {1, 0, 0, 0, 0, 0};
    int[] high = {8, 23, 1, 999, 999, 100};
    int[] first = {1, 0, 0, 0, 0, 50};
    for (int what = 0; what < 6; what++) {
      int term = what;
      x = new YardCourt();
      due(first[what], x.count(12 + what));
      due(first[what], x.terms(what, high[what]));
      due(high[what], x.terms(what, low[what]));
      due(low[what], x.terms(what, first[what]));
      refusedOf(-1, new int[] {low[what] - 1, high[what] + 1, MIN, MAX}, v -> c -> c.terms(term, v));
    }
    refusedOf(-1, new int[] {-1, 6, MIN, MAX}, v -> c -> c.terms(v, 1));
  }

  /** The court full of beasts, meals, laws and cases. */
  private static YardCourt full() {
    YardCourt x = court(8, 3, "");
    for (int k = 0; k < 24; k++) x.meal(0, 0);
    for (int k = 0; k < 6; k++) enact(x, "votes 1");
    for (int k = 0; k < 20; k++) x.judged(0, 1, 1);
    return x;
  }

  private static void order() {
    sentence("The first of these in that order.");
    refused(-1, full(), x -> x.beast(0, 100, 0, 0, 0));
    refused(-5, full(), x -> x.beast(0, 99, 0, 0, 0));
    refused(-1, x -> x.put(4, 0, 10));
    refused(-1, x -> x.put(4, 6, 0));
    refused(-2, x -> x.put(4, 0, 9));
    refused(-1, full(), x -> x.meal(8, 24));
    refused(-2, full(), x -> x.meal(8, 23));
    refused(-5, full(), x -> x.meal(7, 23));
    refused(-1, x -> x.bribe(2, 7));
    refused(-1, x -> x.bribe(0, 15));
    refused(-3, x -> x.bribe(0, 7));
    refused(-1, full(), x -> x.judged(0, 1, 2));
    refused(-5, full(), x -> x.judged(0, 1, 0));
    refused(-1, new YardCourt(), x -> x.back(2));
    refused(-2, new YardCourt(), x -> x.back(1));
    YardCourt y = full();
    write(y, "votes ?");
    due(-5, y.law());
    due(-5, y.law());
  }

  // Terms II: how texts are read.

  /** A word with each letter another, without its first, without its last, with one more. */
  private static List<String> misspelt(String word) {
    List<String> all = new ArrayList<>(List.of(word.substring(1), word.substring(0, word.length() - 1), word + "s", "a" + word));
    for (int i = 0; i < word.length(); i++) {
      StringBuilder other = new StringBuilder(word);
      other.setCharAt(i, word.charAt(i) == 'z' ? 'a' : (char) (word.charAt(i) + 1));
      all.add(other.toString());
    }
    return all;
  }

  private static void tokens() {
    sentence("LAWS are TEXTS, 6 at most, on a TAPE of at most 400 bytes");
    YardCourt x = new YardCourt();
    for (int k = 0; k < 6; k++) due(k, enact(x, "votes " + 10 * k));
    write(x, "votes 99");
    due(-5, x.law());
    due(6, x.count(2));
    x.beast(0, 0, 0, 0, 0);
    for (int k = 0; k < 6; k++) {
      x.force(k);
      due(10 * k, x.chance(0, 0, 0));
    }
    due(NONE, faultOf("votes 7" + " ".repeat(393)));
    due(NONE, faultOf(" ".repeat(393) + "votes 7"));
    due(400, faultOf("votes 7+" + " ".repeat(392)));
    due(399, faultOf("votes 7" + " ".repeat(392) + "?"));
    due(400, faultOf(" ".repeat(400)));
    x = new YardCourt();
    write(x, " ".repeat(393) + "votes 7");
    due(400, x.count(5));
    due(NONE, x.feed(0, 0, 0, 0, 0));
    due(0, x.law());
    sentence("one is in FORCE (NONE at first: no CLAUSE).");
    x = court(1, 1, "");
    due(NONE, x.count(11));
    due(50, x.chance(0, 0, 0));
    due(10, x.price(0, 0));
    write(x, "votes 1;price 1");
    x.law();
    due(NONE, x.count(11));
    due(50, x.chance(0, 0, 0));
    x.force(0);
    due(1, x.chance(0, 0, 0));
    due(1, x.price(0, 0));
    due(0, x.force(NONE));
    due(50, x.chance(0, 0, 0));
    sentence("TOKENS: longest rows of letters a .. z, of digits, single other bytes, any blanks (32) between.");
    due(NONE, faultOf("votes1if[1]=1and(2=2)or not3<4;lies5"));
    due(NONE, faultOf("  votes  1  if  1  =  1  "));
    due(0, faultOf("votesx 1"));
    due(0, faultOf("vote s 1"));
    due(0, faultOf("Votes 1"));
    due(13, faultOf("votes hunger salt"));
    due(6, faultOf("votes hungersalt"));
    due(8, faultOf("votes 1 0"));
    due(7, faultOf("votes 1a"));
    due(NONE, faultOf("votes 1 if 1=1 and not(1=2)"));
    due(15, faultOf("votes 1 if 1=1 andnot(1=2)"));
    due(NONE, faultOf("votes 1 if not not 1=1"));
    due(11, faultOf("votes 1 if notnot 1=1"));
    due(13, faultOf("votes 1 if 1 != 2"));
    due(14, faultOf("votes 1 if 1 << 2"));
    for (int sign : new int[] {0, 9, 10, 31, 33, 46, 58, 64, 65, 90, 95, 96, 123, 127, 128, 160, 255}) {
      due(5, faultOf("votes" + (char) sign + "1"));
      due(0, faultOf((char) sign + "votes 1"));
      due(7, faultOf("votes 1" + (char) sign));
      due(6, faultOf("votes " + (char) sign));
    }
    due(NONE, faultOf("votes side"));
    due(6, faultOf("votes az"));
    due(NONE, faultOf("votes 09"));
    for (String head : new String[] {"votes", "lies", "price"}) {
      due(NONE, faultOf(head + " 1"));
      for (String other : misspelt(head)) due(0, faultOf(other + " 1"));
    }
    for (String word : "beast kind hunger salt mild favour hour rain side minute".split(" ")) {
      due(NONE, faultOf("votes " + word));
      for (String other : misspelt(word)) due(6, faultOf("votes " + other));
    }
    for (String other : misspelt("if")) due(8, faultOf("votes 1 " + other + " 1=1"));
    for (String other : misspelt("not")) due(11, faultOf("votes 1 if " + other + " 1=1"));
    for (String other : misspelt("or")) due(15, faultOf("votes 1 if 1=1 " + other + " 1=1"));
    for (String other : misspelt("and")) due(15, faultOf("votes 1 if 1=1 " + other + " 1=1"));
  }

  private static String clauses(int many) {
    return "lies 1;".repeat(many - 1) + "lies 1";
  }

  private static void limits() {
    sentence("CLAUSE {\";\" CLAUSE}, 12 at most (FAULT at the 13th's first TOKEN).");
    due(NONE, faultOf(clauses(1)));
    due(NONE, faultOf(clauses(12)));
    due(84, faultOf(clauses(13)));
    due(84, faultOf(clauses(20)));
    due(87, faultOf(clauses(12) + ";   lies 1"));
    due(84, faultOf(clauses(12) + ";lies"));
    due(84, faultOf(clauses(12) + ";?"));
    due(84, faultOf(clauses(12) + ";"));
    due(86, faultOf(clauses(12) + ";  "));
    due(0, faultOf(";lies 1"));
    due(7, faultOf("lies 1;;lies 1"));
    due(3, court(1, 1, "votes 1;" + "votes 2;".repeat(10) + "votes 3").chance(0, 0, 0));
    sentence("NUMBER (to 1,000)");
    due(NONE, faultOf("votes 0"));
    due(NONE, faultOf("votes 1000"));
    due(6, faultOf("votes 1001"));
    due(6, faultOf("votes 9999"));
    due(6, faultOf("votes 10000"));
    due(8, faultOf("votes 10,000"));
    due(NONE, faultOf("votes 0000000000000001000"));
    due(6, faultOf("votes 0000000000000001001"));
    due(6, faultOf("votes 2147483648"));
    due(6, faultOf("votes 4294967296"));
    due(6, faultOf("votes 4294967297"));
    due(6, faultOf("votes 18446744073709551617"));
    due(6, faultOf("votes " + "9".repeat(390)));
    due(999, sumOf("1000"));
    due(1, sumOf("1000-999"));
    due(0, sumOf("00"));
    sentence("50 PARTS that are NUMBERS and words (FAULT at the 51st), 8 brackets of both kinds within one another (FAULT at the 9th) at most.");
    String fifty = "votes 1" + "+1".repeat(49);
    due(NONE, faultOf(fifty));
    due(fifty.length() + 1, faultOf(fifty + "+1"));
    due(fifty.length() + 1, faultOf(fifty + "+rain"));
    due(fifty.length() + 2, faultOf(fifty + "+[1]"));
    due(fifty.length() + 6, faultOf(fifty + ";lies 1"));
    due(fifty.length() + 4, faultOf(fifty + " if 1=1"));
    due(fifty.length() + 1, faultOf(fifty + "+"));
    String words = "votes rain" + "*side".repeat(49);
    due(NONE, faultOf(words));
    due(words.length() + 1, faultOf(words + "*side"));
    String spread = "votes 1+2+3+4;lies 5 if not(6<7 or beast=9);price [10]" + "+1".repeat(39);
    due(NONE, faultOf(spread + "+1"));
    due(spread.length() + 3, faultOf(spread + "+1+1"));
    due(50, court(1, 1, fifty).chance(0, 0, 0));
    due(NONE, faultOf("votes " + "[".repeat(8) + "1" + "]".repeat(8)));
    due(14, faultOf("votes " + "[".repeat(9) + "1" + "]".repeat(9)));
    due(14, faultOf("votes " + "[".repeat(9)));
    due(14, faultOf("votes " + "[".repeat(8)));
    due(NONE, faultOf("votes 1 if " + "(".repeat(8) + "1=1" + ")".repeat(8)));
    due(19, faultOf("votes 1 if " + "(".repeat(9) + "1=1" + ")".repeat(9)));
    due(NONE, faultOf("votes 1 if " + "(".repeat(7) + "[1]=[1]" + ")".repeat(7)));
    due(19, faultOf("votes 1 if " + "(".repeat(8) + "[1]=1" + ")".repeat(8)));
    due(21, faultOf("votes 1 if " + "(".repeat(8) + "1=[1]" + ")".repeat(8)));
    due(NONE, faultOf("votes " + "[".repeat(8) + "1" + "]".repeat(8) + "*" + "[".repeat(8) + "1" + "]".repeat(8)));
    due(NONE, faultOf("votes [1] if " + "not(".repeat(8) + "1=1" + ")".repeat(8)));
    due(3, sumOf("[".repeat(8) + "3" + "]".repeat(8)));
  }

  private static void faults() {
    sentence("FAULT: the first TOKEN that can't go on there (the end's: the TEXT's length).");
    due(0, faultOf(""));
    due(1, faultOf(" "));
    due(5, faultOf("votes"));
    due(8, faultOf("votes   "));
    due(8, faultOf("votes 1+"));
    due(8, faultOf("votes 1*"));
    due(7, faultOf("votes ["));
    due(8, faultOf("votes [1"));
    due(8, faultOf("votes [1)"));
    due(7, faultOf("votes []"));
    due(7, faultOf("votes 1]"));
    due(10, faultOf("votes 1 if"));
    due(12, faultOf("votes 1 if( "));
    due(11, faultOf("votes 1 if ;"));
    due(12, faultOf("votes 1 if 1"));
    due(13, faultOf("votes 1 if 1="));
    due(12, faultOf("votes 1 if 1;"));
    due(13, faultOf("votes 1 if 1 or 2=2"));
    due(14, faultOf("votes 1 if 1=1=1"));
    due(14, faultOf("votes 1 if 1=1)"));
    due(15, faultOf("votes 1 if (1=1]"));
    due(17, faultOf("votes 1 if 1=1 or"));
    due(18, faultOf("votes 1 if 1=1 or or 1=1"));
    due(19, faultOf("votes 1 if 1=1 and and 1=1"));
    due(14, faultOf("votes 1 if not"));
    due(13, faultOf("votes 1 if [1=1]"));
    due(13, faultOf("votes 1 if (1)=1"));
    due(6, faultOf("votes (1)"));
    due(6, faultOf("votes -1"));
    due(6, faultOf("votes not 1"));
    due(6, faultOf("votes votes"));
    due(6, faultOf("votes if 1=1"));
    due(8, faultOf("votes 1 lies 1"));
    due(8, faultOf("votes 1 or 1"));
    due(15, faultOf("votes 1 if 1=1 if 1=1"));
    due(0, faultOf("if 1=1"));
    due(0, faultOf("hunger"));
    due(7, faultOf("lies 1;hunger"));
    due(0, faultOf("1"));
  }

  // Terms II: what laws tell.

  private static void sums() {
    sentence("side: whose \"price\" (else -1); minute: of a SITTING (else 0).");
    due(49, court(1, 1, "votes 50+side").chance(0, 0, 0));
    due(49, court(1, 1, "votes 50+side").odds(NONE));
    due(500, court(1, 1, "price 500+side").price(0, 0));
    due(501, court(1, 1, "price 500+side").price(0, 1));
    due(500, court(1, 1, "price 500+minute").price(0, 1));
    due(50, court(1, 1, "votes 50+minute").chance(0, 0, 0));
    YardCourt x = court(1, 1, "lies 0;lies 100 if side=0-1 and minute=7;votes 0;votes 100 if side=0-1 and minute=7");
    due(0, x.sitting(1));
    due(7, x.lay(0, 1));
    x = court(1, 1, "lies 0;lies 100 if minute=9;votes 100-minute;price 500+minute");
    x.sitting(1);
    due(9, x.lay(0, 1));
    due(500, x.price(0, 1));
    due(100, x.chance(0, 0, 0));
    due(500, court(1, 1, "price 500+side;lies 0;lies 100 if side=0-1").price(0, 0));
    x = court(1, 1, "lies 0;lies 100 if side=0-1;votes 0;votes 100 if side=0-1");
    x.price(0, 1);
    due(0, x.sitting(1));
    due(0, x.lay(0, 1));
    sentence("Beyond 1,000,000,000 either way, or divided by 0, a SUM, a TEST is BROKEN; / is cut towards 0.");
    due(999, sumOf("1000*1000*1000"));
    due(BROKEN, sumOf("1000*1000*1000+1"));
    due(0, sumOf("0-1000*1000*1000"));
    due(BROKEN, sumOf("0-1000*1000*1000-1"));
    due(BROKEN, sumOf("0-1-1000*1000*1000"));
    due(7, sumOf("1000*1000*999+1000*1000-1000*1000*1000+7"));
    due(BROKEN, sumOf("1000*1000*1000*2/2"));
    due(BROKEN, sumOf("1000*1000*1000+1-1"));
    due(BROKEN, sumOf("[1000*1000*1000+1]*0"));
    due(BROKEN, sumOf("1000*1000*1000*1000*1000*1000*1000*1000"));
    due(BROKEN, sumOf("1/0"));
    due(BROKEN, sumOf("0/0"));
    due(BROKEN, sumOf("1/[1-1]"));
    due(BROKEN, sumOf("1/rain"));
    due(0, sumOf("0/1"));
    due(0, sumOf("999/1000"));
    due(3, sumOf("7/2"));
    due(20 - 3, sumOf("20+[0-7]/2"));
    due(20 - 3, sumOf("20+7/[0-2]"));
    due(20 + 3, sumOf("20+[0-7]/[0-2]"));
    due(20, sumOf("20+[0-1]/2"));
    due(20, sumOf("20+1/[0-2]"));
    due(BROKEN, testOf("1/0=1"));
    due(BROKEN, testOf("1<1/0"));
    due(BROKEN, testOf("1000*1000*1000+1>0"));
    due(SO, testOf("1000*1000*1000>1000*1000*1000-1"));
    due(SO, testOf("0-1000*1000*1000<1000*1000*1000"));
    due(NOT_SO, testOf("1000*1000*1000=0-1000*1000*1000"));
    due(SO, testOf("[0-7]/2=0-3"));
    for (String sign : new String[] {"<", "=", ">"}) {
      due(sign.equals("<") ? SO : NOT_SO, testOf("4" + sign + "5"));
      due(sign.equals("=") ? SO : NOT_SO, testOf("5" + sign + "5"));
      due(sign.equals(">") ? SO : NOT_SO, testOf("6" + sign + "5"));
    }
  }

  private static void askedWith() {
    sentence("It is asked of a BEAST in an HOUR (hunger as it is then) with FAVOURS (favour 0 .. 3)");
    YardCourt x = new YardCourt();
    x.beast(0, 0, 2, 0, 0);
    x.beast(0, 0, 1, 0, 0);
    x.bench(3);
    enact(x, "votes hunger+favour*10;price hunger+favour*10");
    purses(x, 999, 999);
    x.terms(1, 23);
    x.put(1, 5, 1);
    due(46, x.chance(0, 23, 0));
    due(33, x.chance(1, 23, 1));
    due(30 + 5, x.chance(1, 5, 3));
    due(46, x.price(0, 0));
    due(33, x.price(1, 1));
    due(46 * 33, x.odds(2));
    due(67, x.tips(0));
    due(54, x.tips(1));
    due(10000 - 54 * 67, x.bribed(0, 0));
    due(10000 - 44 * 67, x.bribed(1, 0));
    due(10000 - 34 * 47, x.bribed(0, 3));
    due((10000 - 54 * 67) * 100, x.appeal(1));
    due(33 + 46, x.bribe(1, 3));
    due(10000 - 34 * 47, x.odds(NONE));
    x.meal(0, 20);
    due(10000 - (100 - 20 - 6) * 47, x.odds(NONE));
    enact(x, "lies 0;lies 100 if hour=23 and hunger=23 and favour=3;votes 0;votes 100 if hour=23 and hunger=23 and favour=3");
    due(0, x.sitting(5));
    due(NONE, x.lay(0, 0));
    due(0, x.lay(1, 0));
    due(0, x.lay(1, 1));
    x.terms(1, 22);
    due(2, x.sitting(5));
    x = court(2, 0, "votes 50;votes 90 if hour=23 and favour=1;price 5+hour");
    purses(x, 28, 0);
    x.terms(1, 23);
    due(40, x.swing(1));
    x.terms(3, 27);
    due(0, x.swing(1));
    x.terms(3, 28);
    x.terms(1, 22);
    due(0, x.swing(1));
    sentence("side: whose \"price\"");
    x = purses(court(2, 3, "votes 50;votes 60 if favour=1;votes 40 if favour=2;price 30;price 7 if side=0"), 7, 30);
    due(1, x.reply(0, 0, 0));
    due(7, x.reply(0, 0, 1));
    due(7, x.reply(0, 1, 1));
    due(1, x.reply(1, 0, 0));
    due(30, x.reply(1, 0, 1));
    due(1, x.sure(0, 0));
    due(7, x.sure(0, 1));
    due(30, x.sure(1, 1));
    due(1, x.enough(0, 800_000, 0));
    due(7, x.enough(0, 800_000, 1));
    due(1, x.enough(1, 300_000, 0));
    due(30, x.enough(1, 300_000, 1));
    x.terms(4, 29);
    due(0, x.reply(1, 1, 0));
    due(0, x.reply(1, 1, 1));
    due(NONE, x.reply(0, 1, 0));
    due(NONE, x.reply(0, 1, 1));
    due(0, x.sure(1, 1));
    due(NONE, x.enough(1, 300_000, 1));
    due(7, x.bribe(0, 1));
    due(-3, x.bribe(1, 1));
    x.terms(4, 30);
    due(30, x.bribe(1, 2));
  }

  private static void tests() {
    sentence("A CLAUSE HOLDS, if its \"if\" (if it has one) is so, and neither that nor its SUM is BROKEN");
    due(7, court(1, 1, "votes 7").chance(0, 0, 0));
    due(7, court(1, 1, "votes 7 if 1=1").chance(0, 0, 0));
    due(50, court(1, 1, "votes 7 if 1=2").chance(0, 0, 0));
    due(50, court(1, 1, "votes 7 if 1/0=1").chance(0, 0, 0));
    due(50, court(1, 1, "votes 7/0 if 1=1").chance(0, 0, 0));
    due(50, court(1, 1, "votes 7/0").chance(0, 0, 0));
    due(3, court(1, 1, "votes 3;votes 7/0;votes 4 if 1/0=1;votes 5 if 1=2").chance(0, 0, 0));
    sentence("(\"or\", \"and\" ask what stands behind only if it can still matter; a part that was asked and is BROKEN makes all of it BROKEN)");
    due(SO, testOf("1=1 or 1/0=1"));
    due(BROKEN, testOf("1=2 or 1/0=1"));
    due(BROKEN, testOf("1/0=1 or 1=1"));
    due(NOT_SO, testOf("1=2 and 1/0=1"));
    due(BROKEN, testOf("1=1 and 1/0=1"));
    due(BROKEN, testOf("1/0=1 and 1=2"));
    due(SO, testOf("1=2 and 1/0=1 or 1=1"));
    due(NOT_SO, testOf("1=2 and 1/0=1 or 1=2"));
    due(SO, testOf("1=2 or 1=1 or 1/0=1"));
    due(SO, testOf("1=1 or 1/0=1 and 1/0=1"));
    due(BROKEN, testOf("1=2 or 1=1 and 1/0=1"));
    due(NOT_SO, testOf("1=2 or 1=2 and 1/0=1"));
    due(NOT_SO, testOf("1=1 and 1=2 and 1/0=1"));
    due(NOT_SO, testOf("not(1=1 or 1/0=1)"));
    due(SO, testOf("not(1=2 and 1/0=1)"));
    due(BROKEN, testOf("not 1/0=1"));
    due(SO, testOf("(1=1 or 1/0=1) and 1=1"));
    due(NOT_SO, testOf("(1=2 or 1=1) and 1=2"));
    due(BROKEN, testOf("1=2 or 1000*1000*1000*2>0"));
    sentence("Told by a HEAD is what the last CLAUSE with it that HOLDS tells.");
    YardCourt x = court(1, 1, "votes 1;price 2;votes 3;price 4;votes 5 if 1=2;price 6/0;lies 7");
    due(3, x.chance(0, 0, 0));
    due(4, x.price(0, 0));
    sentence("0 .. 100 of a hundred (else the nearest), 50 without.");
    due(0, court(1, 1, "votes 0").chance(0, 0, 0));
    due(100, court(1, 1, "votes 100").chance(0, 0, 0));
    due(100, court(1, 1, "votes 101").chance(0, 0, 0));
    due(0, court(1, 1, "votes 0-1").chance(0, 0, 0));
    due(100, court(1, 1, "votes 1000*1000*1000").chance(0, 0, 0));
    due(0, court(1, 1, "votes 0-1000*1000*1000").chance(0, 0, 0));
    due(50, court(1, 1, "price 3;lies 4").chance(0, 0, 0));
    due(50, court(1, 1, "votes 1000*1000*1000*2").chance(0, 0, 0));
    sentence("0 .. 999 (else the nearest), 10 without.");
    due(0, court(1, 1, "price 0").price(0, 0));
    due(999, court(1, 1, "price 999").price(0, 0));
    due(999, court(1, 1, "price 1000").price(0, 0));
    due(0, court(1, 1, "price 0-1").price(0, 0));
    due(999, court(1, 1, "price 1000*1000*1000").price(0, 0));
    due(0, court(1, 1, "price 0-1000*1000*1000").price(0, 0));
    due(10, court(1, 1, "votes 3;lies 4").price(0, 0));
    due(10, court(1, 1, "price 4/0").price(0, 0));
  }

  // Terms III.

  private static final String SWAY = "votes 50;votes 80 if favour=1;votes 20 if favour=2;price 5+beast*5";

  private static long hundreds(int times) {
    long all = 1;
    for (int k = 0; k < times; k++) all *= 100;
    return all;
  }

  private static void oddsTold() {
    sentence("SIDE 0 WINS with QUOTA votes at least.");
    YardCourt x = court(3, 7, "votes 100;votes 0 if beast=0");
    x.terms(0, 2);
    due(1000000, x.odds(NONE));
    x.terms(0, 3);
    due(0, x.odds(NONE));
    x.terms(0, 8);
    due(0, x.odds(NONE));
    x.bench(0);
    x.terms(0, 1);
    due(0, x.odds(NONE));
    sentence("They are told exactly, of a hundred multiplied by itself as often as there are BEASTS on the BENCH.");
    for (int b = 0; b <= 8; b++) {
      int all = (1 << b) - 1;
      due(hundreds(b), court(b, all, "votes 100").odds(b));
      due(b == 0 ? 0 : hundreds(b), court(b, all, "votes 100").odds(NONE));
      due(hundreds(b), court(b, all, "votes 0").odds(0));
      due(0, court(b, all, "votes 0").odds(NONE));
      long lost = 1;
      for (int k = 0; k < b; k++) lost *= 67;
      due(hundreds(b) - lost, court(b, all, "votes 33").odds(NONE));
    }
    due(1, court(8, 255, "votes 1").odds(8));
    due(1, court(8, 255, "votes 99").odds(0));
    due(8 * 99, court(8, 255, "votes 99").odds(1));
    sentence("A BEAST TURNS it, if the others have QUOTA less 1 votes for SIDE 0 just.");
    x = court(3, 7, "votes 10*[beast+1]");
    due(80 * 70, x.tips(0));
    x.terms(0, 2);
    due(20 * 70 + 80 * 30, x.tips(0));
    x.terms(0, 3);
    due(20 * 30, x.tips(0));
    x.terms(0, 4);
    due(0, x.tips(0));
    x.terms(0, 8);
    due(0, x.tips(0));
    due(hundreds(7), court(8, 255, "votes 0").tips(7));
    x = court(8, 255, "votes 100");
    due(0, x.tips(0));
    x.terms(0, 8);
    due(hundreds(7), x.tips(0));
  }

  private static void bribesTold() {
    sentence("BRIBES of a SIDE: some BEASTS of the BENCH (bits; none, 0, too), whose PRICES for it together are at most its PURSE; they have its FAVOUR besides what they have.");
    YardCourt x = purses(court(3, 3, SWAY), 15, 14);
    due(9600, x.bribed(3, 0));
    due(NONE, x.bribed(0, 3));
    due(7500, x.bribed(0, 0));
    due(7500, x.bribed(1, 1));
    due(NONE, x.bribed(4, 0));
    x.terms(3, 14);
    due(NONE, x.bribed(3, 0));
    x.terms(4, 15);
    due(3600, x.bribed(0, 3));
    x.put(0, 5, 2);
    due(10000 - 50 * 50, x.bribed(1, 0));
    due(10000 - 80 * 50, x.bribed(0, 1));
    x = court(2, 3, "votes 10+favour;price 0");
    due(10000 - 89 * 89, x.bribed(3, 0));
    x = purses(court(8, 255, "price 999"), 999, 0);
    due(hundreds(8) - hundreds(8) / 256, x.bribed(128, 0));
    due(NONE, x.bribed(129, 0));
    sentence("A REPLY of a SIDE to BRIBES of the other: those by which it WINS likeliest; of alike ones the cheapest, then the lowest.");
    x = purses(court(3, 7, "votes 30;votes 40 if favour=1;votes 20 if favour=2;price 9-beast"), 9, 9);
    due(4, x.reply(0, 0, 0));
    due(7, x.reply(0, 0, 1));
    due(4, x.reply(1, 0, 0));
    x = purses(court(3, 7, "votes 30;votes 40 if favour=1;votes 20 if favour=2;price 9"), 17, 9);
    due(1, x.reply(0, 0, 0));
    due(1, x.reply(1, 0, 0));
    due(2, x.reply(1, 2, 0));
    x.terms(3, 18);
    due(3, x.reply(0, 0, 0));
    due(18, x.reply(0, 0, 1));
    x = purses(court(3, 7, "votes 30;price 0"), 0, 0);
    due(0, x.reply(0, 7, 0));
    due(0, x.reply(1, 7, 0));
    x = purses(court(3, 7, "votes 30;votes 40 if favour=1;votes 40 if favour=2;price 0"), 999, 999);
    due(7, x.reply(0, 0, 0));
    due(0, x.reply(1, 0, 0));
    sentence("What a SIDE can make SURE of: that by which the worst of all REPLIES leaves it the most; of alike ones the cheapest, then the lowest.");
    x = purses(court(3, 7, "votes 30;votes 40 if favour=1;votes 20 if favour=2;price 9-beast"), 9, 0);
    due(4, x.sure(0, 0));
    due(7, x.sure(0, 1));
    due(0, x.sure(1, 0));
    x = purses(court(3, 7, "votes 30;votes 40 if favour=1;votes 20 if favour=2;price 9"), 9, 9);
    due(1, x.sure(0, 0));
    due(1, x.sure(1, 0));
    due(9, x.sure(1, 1));
    x = purses(court(2, 3, "votes 30;price 0"), 999, 999);
    due(0, x.sure(0, 0));
    due(0, x.sure(1, 0));
    x = purses(court(1, 1, "votes 30;votes 31 if favour=1;votes 29 if favour=2;price 1"), 1, 0);
    due(1, x.sure(0, 0));
    due(1, x.reply(0, 0, 0));
    x = purses(x, 0, 1);
    due(1, x.sure(1, 0));
    due(1, x.reply(1, 0, 0));
    // Bribed by both a beast is worse for SIDE 0 than by none: it had better not begin.
    x = purses(court(1, 1, "votes 50;votes 90 if favour=1;votes 10 if favour=3;price 1"), 1, 1);
    due(0, x.sure(0, 0));
    due(1, x.sure(1, 0));
    due(50, x.value(0));
    due(50, x.value(1));
  }

  private static void saddles() {
    sentence("A SADDLE: BRIBES of both that are REPLIES to one another (in the ODDS, whatever they cost); the first by SIDE 0's, then SIDE 1's, lower ones ahead.");
    YardCourt x = purses(court(2, 3, "votes 30;price 7"), 14, 7);
    due(12, x.saddle(2));
    due(0, x.saddle(0));
    due(0, x.saddle(1));
    // Who bribes the beast alone has it; both, or none, leave it at 50: SIDE 0 wants 1, SIDE 1 wants 1.
    x = purses(court(1, 1, SWAY), 5, 5);
    due(1, x.saddle(2));
    due(1, x.saddle(0));
    due(1, x.saddle(1));
    // Each would change whatever the other does: there is none.
    x = purses(court(1, 1, "votes 10;votes 90 if favour=1;votes 5 if favour=3;votes 40 if favour=2;price 0"), 0, 0);
    due(0, x.saddle(2));
    due(NONE, x.saddle(0));
    due(NONE, x.saddle(1));
    x = purses(court(8, 255, "votes 50;price 0"), 0, 0);
    due(65536, x.saddle(2));
    x = new YardCourt();
    due(1, x.saddle(2));
    due(0, x.saddle(0));
    due(0, x.saddle(1));
    // Of the second alone the favour matters: what is done with the first is alike.
    x = purses(court(2, 3, "votes 30;votes 60 if favour=1 and beast=1;votes 20 if favour=2 and beast=1;price 0"), 0, 0);
    due(4, x.saddle(2));
    due(2, x.saddle(0));
    due(2, x.saddle(1));
  }

  private static void benches() {
    sentence("BENCHES of m (1 .. 8) of all BEASTS, QUOTA m / 2 and 1");
    // Each is for SIDE 0 surely with its favour, else against it: how many favours are needed is the QUOTA.
    int[] quotas = {0, 1, 2, 2, 3, 3, 4, 4, 5};
    for (int m = 1; m <= 8; m++) {
      YardCourt x = purses(court(8, 1, "votes 0;votes 100 if favour=1;price 10"), 10 * quotas[m], 0);
      x.terms(0, 8);
      due(hundreds(m), x.swing(m));
      x.terms(3, 10 * quotas[m] - 1);
      due(0, x.swing(m));
      due((1 << m) - 1, x.steady(m, 0));
    }
    sentence("of alike ones the lowest as bits.");
    YardCourt x = purses(court(3, 0, SWAY), 10, 10);
    due(4, x.steady(1, 0));
    due(1, x.steady(1, 1));
    x.terms(3, 9);
    x.terms(4, 9);
    due(2, x.steady(1, 0));
    due(2, x.steady(1, 1));
    x.terms(3, 999);
    x.terms(4, 999);
    due(1, x.steady(1, 0));
    due(3, x.steady(1, 1));
    due(60, x.swing(1));
    due(3, x.steady(2, 0));
    due(3, x.steady(2, 1));
    due(6400 - 400, x.swing(2));
    due(7, x.steady(3, 0));
    due(1, x.steady(3, 1));
    x.put(0, 5, 1);
    due(80 - 50, x.swing(1));
    due(1, x.steady(1, 0));
    due(1, x.steady(1, 1));
    sentence("The FAIREST HOUR: that in which the ODDS of SIDE 0 are nearest to a half; the lowest.");
    due(0, new YardCourt().fairest());
    due(0, court(1, 1, "").fairest());
    due(23, court(1, 1, "votes 40;votes 41 if hour=23").fairest());
    due(22, court(1, 1, "votes 40;votes 59 if hour=22;votes 41 if hour=23").fairest());
    due(3, court(1, 1, "votes 60;votes 40 if hour=2;votes 59 if hour=3;votes 41 if hour=4").fairest());
    due(0, court(1, 1, "votes 60;votes 40 if hour=2").fairest());
    due(0, court(1, 1, "votes 0;votes 100 if hour>0").fairest());
    due(5, court(8, 255, "votes 0;votes 1 if hour=5;votes 99 if hour=6").fairest());
  }

  // Terms IV.

  private static void casesTold() {
    sentence("CASES, 20 at most");
    YardCourt x = new YardCourt();
    for (int k = 1; k <= 20; k++) due(k, x.judged(k % 2, 255, 255));
    due(-5, x.judged(0, 1, 1));
    due(20, x.count(3));
    due(10, x.right(0, 0));
    due(10, x.right(7, 1));
    due(19, x.annul(19));
    due(20, x.judged(0, 0, 0));
    sentence("RIGHT of a BEAST: CASES in which it judged and voted for who was right; WRONG: the others in which it judged.");
    int[][] four = {{0, 1, 1, 1, 0}, {0, 1, 0, 0, 1}, {1, 1, 1, 0, 1}, {1, 1, 0, 1, 0}, {0, 2, 0, 0, 0}, {1, 2, 2, 0, 0}, {0, 0, 0, 0, 0}};
    for (int[] one : four) {
      x = new YardCourt();
      x.judged(one[0], one[1], one[2]);
      due(one[3], x.right(0, 0));
      due(one[4], x.right(0, 1));
    }
    sentence("TRUST of it: RIGHT and 1 through RIGHT, WRONG and 2.");
    x = court(3, 0, "");
    due(1, x.proof(1, 1, 0));
    due(2, x.proof(1, 1, 1));
    x.judged(0, 1, 1);
    due(2, x.proof(1, 1, 0));
    due(3, x.proof(1, 1, 1));
    x.judged(0, 1, 0);
    due(1, x.proof(1, 1, 0));
    due(2, x.proof(1, 1, 1));
    for (int k = 3; k <= 20; k++) x.judged(0, 1, 0);
    due(1, x.proof(1, 1, 0));
    due(11, x.proof(1, 1, 1));
    sentence("PROOF of VOTES (bits) of BEASTS (bits): how likely SIDE 0 is right, if it is so by PRIOR of a hundred ahead, and each BEAST votes for who is right by its TRUST, each by itself.");
    x = new YardCourt();
    for (int k = 0; k < 20; k++) x.judged(0, 255, 255);
    BigInteger right = BigInteger.valueOf(21).pow(8);
    x.terms(5, 1);
    // 1 by 21^8 against 99 by 1, of which the common divisor is 9.
    due(right.divide(right.gcd(right.add(BigInteger.valueOf(99)))).longValueExact(), x.proof(255, 255, 0));
    due(right.add(BigInteger.valueOf(99)).divide(right.gcd(right.add(BigInteger.valueOf(99)))).longValueExact(), x.proof(255, 255, 1));
    due(1, x.proof(255, 0, 0));
    due(right.longValueExact() * 99 + 1, x.proof(255, 0, 1));
    x.terms(5, 50);
    due(1, x.proof(255, 15, 0));
    due(2, x.proof(255, 15, 1));
    due(21, x.proof(128, 128, 0));
    due(22, x.proof(128, 128, 1));
    due(1, x.proof(0, 0, 0));
    due(2, x.proof(0, 0, 1));
  }

  private static long appealOf(long won, long of, int sittings) {
    BigInteger all = BigInteger.ZERO;
    for (int way = 0; way < 1 << sittings; way++) {
      int wins = Integer.bitCount(way);
      if (wins > sittings / 2) all = all.add(BigInteger.valueOf(won).pow(wins).multiply(BigInteger.valueOf(of - won).pow(sittings - wins)));
    }
    return all.multiply(BigInteger.valueOf(1_000_000)).divide(BigInteger.valueOf(of).pow(sittings)).longValueExact();
  }

  private static void appeals() {
    sentence("APPEALS: of 1, 3, 5 SITTINGS, each alike, SIDE 0 WINS more than half: how likely.");
    for (int sittings : new int[] {1, 3, 5}) {
      due(0, new YardCourt().appeal(sittings));
      for (int chance : new int[] {0, 1, 2, 49, 50, 51, 67, 98, 99, 100}) {
        for (int beasts : new int[] {1, 2, 3, 7, 8}) {
          YardCourt x = court(beasts, (1 << beasts) - 1, "votes " + chance);
          x.terms(0, beasts / 2 + 1);
          due(appealOf(x.odds(NONE), hundreds(beasts), sittings), x.appeal(sittings));
        }
      }
    }
  }

  private static long drawn(long s) {
    return (s * 1103 + 12345) % 1_000_003;
  }

  /** The first seed whose first draw is this. */
  private static int seedOf(int draw) {
    for (int seed = 0; seed <= 1_000_000; seed++) if (drawn(seed) % 100 == draw) return seed;
    return NONE;
  }

  /** The first seed whose first draw is 0 and whose second is this. */
  private static int seedOfSecond(int draw) {
    for (int seed = 0; seed <= 1_000_000; seed++) {
      if (drawn(seed) % 100 == 0 && drawn(drawn(seed)) % 100 == draw) return seed;
    }
    return NONE;
  }

  private static void sittings() {
    sentence("s is the SEED (0 .. 1,000,000); a DRAW of n: s becomes (s times 1103 and 12345) modulo 1,000,003, it is s modulo n.");
    // By SEED 0: 12345, 628841. By SEED 1,000,000: 9036, 979026. What 1,000,002 becomes is 11242.
    due(0, court(1, 1, "lies 46 if minute=0;votes 42").sitting(0));
    due(1, court(1, 1, "lies 46 if minute=0;votes 41").sitting(0));
    due(2, court(1, 1, "lies 45 if minute=0;lies 0 if minute>0").sitting(0));
    due(0, court(1, 1, "lies 37 if minute=0;votes 27").sitting(1_000_000));
    due(1, court(1, 1, "lies 37 if minute=0;votes 26").sitting(1_000_000));
    due(2, court(1, 1, "lies 36 if minute=0;lies 0 if minute>0").sitting(1_000_000));
    int before = NONE;
    for (int seed = 0; seed <= 1_000_000 && before == NONE; seed++) if (drawn(seed) == 1_000_002) before = seed;
    due(0, court(1, 1, "lies 3 if minute=0;votes 43").sitting(before));
    due(1, court(1, 1, "lies 3 if minute=0;votes 42").sitting(before));
    refusedOf(-1, new int[] {-1, 1_000_001, MIN, MAX}, v -> c -> c.sitting(v));
    sentence("if it is below what \"lies\" tells, 0 .. 100 (else the nearest; 10 without), it lies down: a DRAW of 100: below its CHANCE (asked with that minute) for SIDE 0, else for SIDE 1.");
    for (String lies : new String[] {"", "lies 10", "lies 5/0", "lies 3 if 1=2"}) {
      YardCourt x = court(1, 1, lies);
      x.sitting(seedOf(9));
      due(0, x.lay(0, 1));
      x.sitting(seedOf(10));
      due(1, x.lay(0, 1) == 0 ? 0 : 1);
    }
    due(2, court(1, 1, "lies 0").sitting(seedOf(0)));
    due(2, court(1, 1, "lies 0-1").sitting(seedOf(0)));
    for (String lies : new String[] {"lies 100", "lies 101", "lies 1000*1000*1000"}) {
      YardCourt x = court(8, 255, lies);
      x.sitting(seedOf(99));
      for (int b = 0; b < 8; b++) due(0, x.lay(b, 1));
    }
    YardCourt y = court(1, 1, "lies 99");
    y.sitting(seedOf(99));
    due(1, y.lay(0, 1) == 0 ? 0 : 1);
    y.sitting(seedOf(98));
    due(0, y.lay(0, 1));
    due(0, court(1, 1, "lies 1;votes 100").sitting(seedOfSecond(99)));
    due(1, court(1, 1, "lies 1;votes 99").sitting(seedOfSecond(99)));
    due(0, court(1, 1, "lies 1;votes 1").sitting(seedOfSecond(0)));
    due(1, court(1, 1, "lies 1;votes 0").sitting(seedOfSecond(0)));
    due(0, court(1, 1, "lies 1;votes 0;votes 100 if minute=0").sitting(seedOfSecond(50)));
    due(1, court(1, 1, "lies 1;votes 100;votes 0 if minute=0").sitting(seedOfSecond(50)));
  }

  private static void sittingsEnd() {
    sentence("MINUTE by MINUTE 0 .. 59, BEAST by BEAST of the BENCH that does not lie yet a DRAW of 100");
    YardCourt x = court(1, 1, "lies 0;lies 100 if minute=59;votes 100");
    due(0, x.sitting(3));
    due(59, x.lay(0, 1));
    due(59, x.lay(NONE, 0));
    x = court(1, 1, "lies 0;lies 100 if minute>59;votes 100");
    due(2, x.sitting(3));
    due(NONE, x.lay(0, 1));
    due(59, x.lay(NONE, 0));
    // A beast that lies draws no more: then the second's draws are those of a bench of it alone.
    x = court(2, 3, "lies 0;lies 100 if beast=0;lies 50 if beast=1 and minute>0;votes 0");
    int seed = 4;
    x.sitting(seed);
    long s = drawn(drawn(drawn(seed)));
    int minute = 0;
    do {
      minute++;
      s = drawn(s);
    } while (s % 100 >= 50);
    due(minute, x.lay(1, 1));
    sentence("It ENDS behind the MINUTE in which one has as many as it needs (SIDE 1: so many that SIDE 0 can't have QUOTA any more).");
    x = court(3, 7, "lies 0;lies 100 if minute=beast;votes 100");
    x.terms(0, 2);
    due(0, x.sitting(9));
    due(1, x.lay(NONE, 0));
    due(1, x.lay(1, 1));
    due(NONE, x.lay(2, 0));
    x = court(3, 7, "lies 100;votes 100");
    due(0, x.sitting(9));
    due(0, x.lay(2, 0));
    x = court(4, 15, "lies 0;lies 100 if minute=beast;votes 0");
    int[] last = {0, 3, 2, 1, 0, 0, 0, 0, 0};
    for (int quota = 1; quota <= 8; quota++) {
      x.terms(0, quota);
      due(1, x.sitting(9));
      due(last[quota], x.lay(NONE, 0));
      due(last[quota], x.lay(NONE, 1));
    }
    x = court(4, 0, "lies 100");
    due(1, x.sitting(9));
    due(0, x.lay(NONE, 0));
    due(NONE, x.lay(0, 0));
    x = court(4, 15, "lies 0;lies 100 if minute=beast;votes 100;votes 0 if beast=0");
    x.terms(0, 4);
    due(1, x.sitting(9));
    due(0, x.lay(NONE, 0));
    x.terms(0, 3);
    due(0, x.sitting(9));
    due(3, x.lay(NONE, 0));
  }

  private static void rows() {
    sentence("A ROW of CASES: the TAPE's bytes by threes: SIDE, BEASTS, VOTES; one that can't be, one within which the TAPE ends, one for which there is no room is QUASHED: none.");
    int[][] bytes = {{0, 0, 0}, {1, 255, 255}, {0, 255, 0}, {1, 128, 128}, {2, 0, 0}, {255, 1, 1}, {128, 0, 0}, {0, 1, 2}, {0, 0, 1},
      {1, 254, 255}, {1, 127, 128}, {0}, {0, 1}};
    for (int i = 0; i < bytes.length; i++) {
      YardCourt x = new YardCourt();
      writeCases(x, bytes[i]);
      due(i < 4 ? 1 : 0, x.row());
      due(i < 4 ? 0 : 1, x.quashed());
      due(i < 4 ? 1 : 0, x.count(3));
      due(0, x.count(5));
      due(0, x.status());
      due(i < 4 ? 2 : NONE, x.again(0, 1));
    }
    YardCourt x = new YardCourt();
    write(x, "\0".repeat(400));
    due(20, x.row());
    due(113 + 1, x.quashed());
    due(20, x.count(3));
    write(x, "\0".repeat(3));
    due(0, x.row());
    due(1, x.quashed());
    due(0, x.status());
    due(0, x.count(9));
    x.annul(0);
    writeCases(x, 2, 0, 0, 1, 1, 1, 0, 1, 1, 0);
    due(1, x.row());
    due(3, x.quashed());
    due(1, x.right(0, 1));
    x = new YardCourt();
    writeCases(x, 0, 1, 1, 1, 1, 1, 0, 3, 2);
    due(3, x.row());
    due(2, x.annul(0));
    due(0, x.right(0, 0));
    due(2, x.right(0, 1));
    due(1, x.right(1, 0));
  }

  /** Changes all that an image keeps. */
  private static void changeAll(YardCourt x) {
    x.put(0, 0, 9);
    x.put(1, 1, 98);
    x.put(2, 5, 1);
    x.beast(9, 9, 9, 9, 9);
    x.meal(2, 1);
    x.meal(4, 2);
    x.bench(24);
    x.terms(0, 1);
    x.terms(1, 22);
    x.terms(2, 1);
    x.terms(3, 500);
    x.terms(4, 501);
    x.terms(5, 9);
    enact(x, "votes 77;price 3;lies 100");
    x.annul(0);
    x.judged(1, 16, 0);
  }

  private static void imagesKept() {
    sentence("IMAGES 0, 1 keep all but the TAPE, FAULT, QUASHED, the latest SITTING; BACK to one all that it keeps is as it was then (IMAGES stay).");
    for (int k = 0; k < 2; k++) {
      YardCourt x = rich();
      int image = k;
      due(0, x.image(image));
      String then = kept(x);
      changeAll(x);
      write(x, "price");
      x.law();
      writeCases(x, 9, 9);
      x.row();
      x.sitting(4);
      x.feed(7, 7, 7, 7, 7);
      String notKept = unkept(x);
      due(0, x.back(image));
      dueSame(then, kept(x));
      dueSame(notKept, unkept(x));
      due(5, x.fault());
      due(1, x.quashed());
      due(20, x.count(5));
      due(0, x.lay(3, 1));
    }
    YardCourt x = rich();
    x.image(1);
    String then = kept(x);
    changeAll(x);
    x.back(1);
    changeAll(x);
    x.back(1);
    dueSame(then, kept(x));
    x = court(1, 1, "votes 1");
    x.image(0);
    x.put(0, 0, 8);
    x.image(1);
    x.put(0, 0, 7);
    x.back(0);
    due(1, x.of(0, 0));
    x.back(1);
    due(8, x.of(0, 0));
    x.image(0);
    x.put(0, 0, 6);
    x.back(0);
    due(8, x.of(0, 0));
    // Laws made behind an image are gone by it, and others take their numbers, in this image alone.
    x = court(1, 1, "votes 1");
    x.image(0);
    enact(x, "votes 2");
    x.image(1);
    x.back(0);
    due(-2, x.force(1));
    due(1, enact(x, "votes 3"));
    due(3, x.chance(0, 0, 0));
    x.back(1);
    due(2, x.chance(0, 0, 0));
    due(1, x.count(11));
  }

  // The promises.

  private static void promises1to9() {
    promise(1, "`YardCourt()`: No BEASTS, CASES, LAWS.");
    YardCourt x = new YardCourt();
    int[] first = {0, 0, 0, 0, 0, 0, 0, 0, 0, 0, 0, NONE, 1, 0, 0, 0, 0, 50};
    for (int what = 0; what < first.length; what++) due(first[what], x.count(what));
    due(NONE, x.of(0, 0));
    due(NONE, x.trusted(0));
    due(NONE, x.again(0, 0));
    due(0, x.status());
    due(-2, x.force(0));
    due(-2, x.annul(0));
    due(-2, x.put(0, 0, 0));
    due(0, x.right(NONE, 0));

    promise(2, "A BEAST: its number. -1; -5.");
    x = new YardCourt();
    due(0, x.beast(0, 0, 0, 0, 0));
    due(-1, x.beast(0, 0, 0, 0, 10));
    due(1, x.beast(9, 99, 9, 9, 9));
    due(0, x.of(1, 5));
    refused(-5, full(), c -> c.beast(9, 99, 9, 9, 9));

    promise(3, "FAVOURS (5) of a BEAST: what it was. -1; -2.");
    refusedOf(-1, new int[] {-1, 6, MIN, MAX}, v -> c -> c.put(0, v, 0));
    refusedOf(-2, new int[] {-1, 4, 7, 8, MIN, MAX}, v -> c -> c.put(v, 0, 0));
    x = rich();
    due(2, x.put(2, 5, 3));
    due(3, x.put(2, 5, 3));
    due(3, x.of(2, 5));
    due(4, x.put(3, 0, 0));
    due(0, x.of(3, 0));

    promise(4, "Of a BEAST 0 .. 5 as for put(). NONE.");
    noneOf(new int[] {-1, 6, MIN, MAX}, v -> c -> c.of(0, v));
    noneOf(new int[] {-1, 4, 8, MIN, MAX}, v -> c -> c.of(v, 0));
    x = rich();
    due(4, x.of(3, 0));
    due(60, x.of(3, 1));
    due(5, x.of(3, 2));
    due(6, x.of(3, 3));
    due(3, x.of(3, 4));
    due(0, x.of(3, 5));

    promise(5, "A MEAL: how many there are. -1; -2; -5.");
    refusedOf(-2, new int[] {-1, 4, 8, MIN, MAX}, v -> c -> c.meal(v, 0));
    x = rich();
    due(3, x.meal(3, 23));
    due(4, x.meal(3, 0));
    due(0, x.status());

    promise(6, "No MEALS are there then: how many there were.");
    due(0, new YardCourt().fast());
    x = full();
    due(24, x.fast());
    due(0, x.count(1));
    due(0, x.fast());
    due(1, x.meal(7, 23));
    due(-2, x.meal(8, 0));
    due(1, x.fast());
    due(-2, x.status());

    promise(7, "HUNGER of a BEAST in an HOUR. NONE.");
    noneOf(new int[] {-1, 24, 32, MIN, MAX}, v -> c -> c.hunger(0, v));
    noneOf(new int[] {-1, 4, 8, MIN, MAX}, v -> c -> c.hunger(v, 0));
    x = rich();
    due(0, x.hunger(0, 3));
    due(4, x.hunger(0, 2));
    due(2 * 20, x.hunger(0, 23));

    promise(8, "The BENCH: what it was. -1 (BEASTS that are not there, too).");
    refusedOf(-1, new int[] {-1, 16, 24, 255, 256, MIN, MAX}, v -> c -> c.bench(v));
    refused(-1, new YardCourt(), c -> c.bench(1));
    x = rich();
    due(7, x.bench(15));
    due(15, x.bench(0));
    due(0, x.bench(8));
    due(-1, full().bench(256));
    due(3, full().bench(255));

    promise(9, "A TERM: what it was. -1.");
    x = rich();
    due(2, x.terms(0, 8));
    due(8, x.terms(0, 8));
    due(45, x.terms(3, 0));
    due(22, x.terms(4, 999));
    due(50, x.terms(5, 100));
  }

  private static void promises10to16() {
    promise(10, "Twenty bytes come behind the TAPE, four of each number, the highest first: how many it has. NONE, if there would be more than 400.");
    YardCourt x = new YardCourt();
    for (int k = 1; k <= 20; k++) due(20 * k, x.feed(k, k, k, k, k));
    none(x, c -> c.feed(1, 1, 1, 1, 1));
    x.end(381);
    none(x, c -> c.feed(1, 1, 1, 1, 1));
    x.end(380);
    due(400, x.feed(MIN, MAX, -1, 0, 1));
    x = new YardCourt();
    x.feed(0x00ffff01, 0xff000180, 0x8080ff7f, 0xff00ff80, 0x01fe8002);
    x.end(19);
    // Of threes: 0 ff ff, 1 ff 0, 1 80 80, 80 ff 7f (none), ff 0 ff (none), 80 1 fe (none), and 80.
    due(3, x.row());
    due(4, x.quashed());
    due(2, x.right(7, 0));
    due(1, x.right(7, 1));

    promise(11, "The TAPE has its first n bytes alone: n. NONE, if it has not so many, or n is below 0.");
    noneOf(new int[] {-1, 21, MIN, MAX}, v -> c -> c.end(v));
    x = rich();
    due(20, x.end(20));
    due(1, x.end(1));
    none(x, c -> c.end(2));
    due(1, x.end(1));
    due(0, x.end(0));
    none(x, c -> c.end(1));
    due(0, x.end(0));
    x.feed(0x00010100, 0, 0, 0, 0);
    x.end(2);
    due(22, x.feed(0x01000101, 0, 0, 0, 0));
    x.end(6);
    due(2, x.row());

    promise(12, "A ROW of CASES, the TAPE is empty then: how many came. -6 the TAPE is empty.");
    refused(-6, new YardCourt(), YardCourt::row);
    x = rich();
    x.end(0);
    refused(-6, x, YardCourt::row);
    x.feed(0, 0, 0, 0, 0);
    due(6, x.row());
    due(0, x.count(5));
    due(0, x.status());
    refused(-6, x, YardCourt::row);

    promise(13, "How many were QUASHED in the latest row() that was not REFUSED (0 ahead of any).");
    x = new YardCourt();
    due(0, x.quashed());
    due(-6, x.row());
    due(0, x.quashed());
    writeCases(x, 0, 1, 2, 3);
    x.row();
    due(2, x.quashed());
    x.row();
    due(2, x.quashed());
    writeCases(x, 0, 1, 1);
    x.row();
    due(0, x.quashed());

    promise(14, "The TAPE, which is empty then, becomes a LAW: its number. -5 (ahead of reading it; the TAPE is empty then, too); -6 (blanks alone: FAULT at the end).");
    x = full();
    write(x, "votes ?");
    due(-5, x.law());
    due(NONE, x.fault());
    due(0, x.count(5));
    due(-5, x.status());
    due(1, x.count(9));
    x = new YardCourt();
    write(x, "votes 1");
    due(0, x.law());
    due(0, x.count(5));
    write(x, "votes");
    due(-6, x.law());
    due(0, x.count(5));
    write(x, "  ");
    due(-6, x.law());
    due(2, x.fault());
    due(-6, x.law());
    due(0, x.fault());
    due(3, x.count(10));
    write(x, "votes 1");
    due(1, x.law());

    promise(15, "FAULT of the latest law() that read a TEXT: its place; NONE without.");
    x = new YardCourt();
    due(NONE, x.fault());
    write(x, "votes");
    x.law();
    due(5, x.fault());
    for (int k = 0; k < 5; k++) enact(x, "votes 1");
    due(NONE, x.fault());
    write(x, "lies");
    x.law();
    due(4, x.fault());
    x.image(0);
    enact(x, "votes 1");
    due(NONE, x.fault());
    due(-5, x.law());
    due(NONE, x.fault());
    x.back(0);
    due(NONE, x.fault());
    due(-6, x.law());
    due(0, x.fault());
    enact(x, "votes 1");
    x.law();
    due(NONE, x.fault());

    promise(16, "A LAW is in FORCE (NONE: none): which was. -2.");
    refusedOf(-2, new int[] {-2, 2, 6, MIN, MAX}, v -> c -> c.force(v));
    x = rich();
    due(1, x.force(NONE));
    due(NONE, x.force(NONE));
    due(NONE, x.force(0));
    due(0, x.force(1));
    due(1, x.force(1));
    refused(-2, new YardCourt(), c -> c.force(0));
    due(NONE, new YardCourt().force(NONE));
  }

  private static void promises17to21() {
    promise(17, "CHANCE of a BEAST in an HOUR with FAVOURS 0 .. 3. NONE.");
    noneOf(new int[] {-1, 4, 8, MIN, MAX}, v -> c -> c.chance(v, 0, 0));
    noneOf(new int[] {-1, 24, MIN, MAX}, v -> c -> c.chance(0, v, 0));
    noneOf(new int[] {-1, 4, MIN, MAX}, v -> c -> c.chance(0, 0, v));
    YardCourt x = court(8, 1, "votes hour*4+favour");
    due(0, x.chance(0, 0, 0));
    due(95, x.chance(7, 23, 3));

    promise(18, "PRICE of a FAVOUR of a BEAST for a SIDE (in the HOUR, by the FAVOURS it has). NONE.");
    noneOf(new int[] {-1, 4, 8, MIN, MAX}, v -> c -> c.price(v, 0));
    noneOf(new int[] {-1, 2, MIN, MAX}, v -> c -> c.price(0, v));
    x = court(8, 1, "price hour*4+favour+side*100");
    due(0, x.price(0, 0));
    x.terms(1, 23);
    x.put(7, 5, 3);
    due(92, x.price(0, 0));
    due(195, x.price(7, 1));

    promise(19, "ODDS that SIDE 0 WINS (votes NONE), that it has just so many votes (0 .. 8). NONE.");
    noneOf(new int[] {-2, 9, MIN, MAX}, v -> c -> c.odds(v));
    x = rich();
    long all = 0;
    for (int votes = 0; votes <= 8; votes++) all += x.odds(votes);
    due(1000000, all);
    due(x.odds(2) + x.odds(3), x.odds(NONE));
    due(0, x.odds(4));
    due(1, new YardCourt().odds(0));
    due(0, new YardCourt().odds(1));
    due(0, new YardCourt().odds(NONE));

    promise(20, "of a hundred multiplied by itself once less than there are on the BENCH. NONE (it is not on the BENCH).");
    noneOf(new int[] {-1, 3, 4, 8, 31, 32, MIN, MAX}, v -> c -> c.tips(v));
    due(NONE, new YardCourt().tips(0));
    x = court(2, 2, "");
    due(1, x.tips(1));
    x.terms(0, 2);
    due(0, x.tips(1));

    promise(21, "ODDS that SIDE 0 WINS with BRIBES of both SIDES (bits). NONE (they can't be).");
    noneOf(new int[] {-1, 7, 8, 15, 256, MIN, MAX}, v -> c -> c.bribed(v, 0));
    noneOf(new int[] {-1, 3, 5, 8, 256, MIN, MAX}, v -> c -> c.bribed(0, v));
    x = rich();
    due(x.odds(NONE), x.bribed(0, 0));
    due(0, new YardCourt().bribed(0, 0));
    due(NONE, new YardCourt().bribed(1, 0));
  }

  private static void promises22to27() {
    promise(22, "The REPLY of a SIDE to BRIBES of the other (bits), as bits (what 0), what it costs (1). NONE (those can't be, too).");
    noneOf(new int[] {-1, 2, MIN, MAX}, v -> c -> c.reply(v, 0, 0));
    noneOf(new int[] {-1, 5, 8, 256, MIN, MAX}, v -> c -> c.reply(0, v, 0));
    noneOf(new int[] {-1, 7, 8, MIN, MAX}, v -> c -> c.reply(1, v, 1));
    noneOf(new int[] {-1, 2, MIN, MAX}, v -> c -> c.reply(0, 0, v));
    due(0, new YardCourt().reply(0, 0, 0));
    due(0, new YardCourt().reply(1, 0, 1));
    due(NONE, new YardCourt().reply(1, 1, 1));

    promise(23, "What a SIDE can make SURE of: its BRIBES as bits (what 0), what they cost (1). NONE.");
    noneOf(new int[] {-1, 2, MIN, MAX}, v -> c -> c.sure(v, 0));
    noneOf(new int[] {-1, 2, MIN, MAX}, v -> c -> c.sure(0, v));
    due(0, new YardCourt().sure(0, 0));
    due(0, new YardCourt().sure(1, 1));

    promise(24, "The ODDS that SIDE 0 WINS, at worst for that SIDE, with what it can make SURE of. NONE.");
    noneOf(new int[] {-1, 2, MIN, MAX}, v -> c -> c.value(v));
    due(0, new YardCourt().value(0));
    due(0, new YardCourt().value(1));
    YardCourt x = purses(court(1, 1, "votes 10;votes 90 if favour=1;votes 5 if favour=3;votes 40 if favour=2;price 0"), 0, 0);
    due(10, x.value(0));
    due(40, x.value(1));
    due(hundreds(8), court(8, 255, "votes 100").value(0));
    due(hundreds(8), court(8, 255, "votes 100").value(1));

    // What was told ahead of a change is told anew behind it, be it more or less.
    YardCourt y = purses(court(3, 7, "votes 90-favour;price 0"), 999, 999);
    enact(y, "votes 10-favour;price 0");
    for (int law : new int[] {0, 1, 0}) {
      y.force(law);
      long lost = law == 0 ? 12 : 92;
      due(1000000 - lost * lost * lost, y.value(0));
      due(1000000 - lost * lost * lost, y.value(1));
      due(1, y.saddle(2));
      due(7, y.saddle(1));
    }

    promise(25, "how many SADDLES there are (2; 0). NONE (none, for 0, 1).");
    noneOf(new int[] {-1, 3, MIN, MAX}, v -> c -> c.saddle(v));
    due(0, x.saddle(2));
    none(x, c -> c.saddle(0));
    none(x, c -> c.saddle(1));

    promise(26, "so many millionths (0 .. 1,000,000) at least: bits (what 0), what they cost (1); of alike ones the lowest. NONE (none are, too).");
    noneOf(new int[] {-1, 2, MIN, MAX}, v -> c -> c.enough(v, 0, 0));
    noneOf(new int[] {-1, 1_000_001, MIN, MAX}, v -> c -> c.enough(0, v, 0));
    noneOf(new int[] {-1, 2, MIN, MAX}, v -> c -> c.enough(0, 0, v));
    noneOf(new int[] {0, 1}, v -> c -> c.enough(0, 1_000_000, v));
    noneOf(new int[] {0, 1}, v -> c -> c.enough(1, 1_000_000, v));
    due(0, rich().enough(0, 0, 0));
    due(0, rich().enough(1, 0, 1));
    x = new YardCourt();
    due(0, x.enough(0, 0, 0));
    due(NONE, x.enough(0, 1, 0));
    due(0, x.enough(1, 1_000_000, 0));
    for (int b = 1; b <= 8; b++) {
      x = court(b, (1 << b) - 1, "votes 100");
      due(0, x.enough(0, 1_000_000, 0));
      due(0, x.enough(1, 0, 0));
      due(NONE, x.enough(1, 1, 0));
      x = court(b, (1 << b) - 1, "votes 0");
      due(NONE, x.enough(0, 1, 0));
      due(0, x.enough(1, 1_000_000, 0));
    }
    // 1 less .99^8 is .0772553055720799: 77255 millionths and some; what is left 922744 and some.
    x = court(8, 255, "votes 1");
    due(0, x.enough(0, 77255, 0));
    due(NONE, x.enough(0, 77256, 0));
    due(0, x.enough(1, 922744, 0));
    due(NONE, x.enough(1, 922745, 0));
    x = purses(court(3, 7, "votes 0;votes 50 if favour=1;price 9-beast"), 17, 0);
    due(0, x.enough(0, 0, 0));
    due(4, x.enough(0, 1, 0));
    due(7, x.enough(0, 500_000, 1));
    due(6, x.enough(0, 500_001, 0));
    due(15, x.enough(0, 750_000, 1));
    due(NONE, x.enough(0, 750_001, 0));
    x = purses(court(3, 7, "votes 0;votes 50 if favour=1;price 9"), 18, 0);
    due(1, x.enough(0, 500_000, 0));
    due(3, x.enough(0, 500_001, 0));

    promise(27, "its PURSE is less by what they cost: that. -1 (SIDE; BEASTS not of the BENCH); -3 the PURSE is too small.");
    refusedOf(-1, new int[] {-1, 2, MIN, MAX}, v -> c -> c.bribe(v, 0));
    refusedOf(-1, new int[] {-1, 8, 9, 256, MIN, MAX}, v -> c -> c.bribe(0, v));
    refused(-3, c -> c.bribe(0, 7));
    refused(-3, c -> c.bribe(1, 6));
    refused(-1, new YardCourt(), c -> c.bribe(0, 1));
    x = rich();
    due(21 + 22, x.bribe(0, 6));
    due(2, x.count(15));
    due(22, x.count(16));
    due(1, x.of(1, 5));
    due(3, x.of(2, 5));
    due(0, x.bribe(0, 0));
    due(-3, x.bribe(0, 1));
    due(22, x.bribe(1, 4));
    due(0, x.count(16));
    due(0, x.bribe(1, 0));
    due(-3, x.bribe(1, 1));
    due(0, new YardCourt().bribe(1, 0));
    x = purses(court(1, 1, "price 999"), 998, 999);
    due(-3, x.bribe(0, 1));
    due(999, x.bribe(1, 1));
    due(998, x.count(15));
    due(0, x.count(16));
    x = purses(court(1, 1, "price 0"), 0, 0);
    due(0, x.bribe(0, 1));
    due(1, x.of(0, 5));
  }

  /** Twenty cases that the first and the last judged, alike in every other. */
  private static YardCourt manyCases() {
    YardCourt x = new YardCourt();
    for (int k = 0; k < 20; k++) x.judged(0, 129, k % 2 == 0 ? 129 : 128);
    return x;
  }

  private static void promises28to34() {
    promise(28, "The STEADY BENCH of m as bits (what 0), in how many ways one has so little (1). NONE (fewer BEASTS).");
    noneOf(new int[] {-1, 0, 5, 8, 9, MIN, MAX}, v -> c -> c.steady(v, 0));
    noneOf(new int[] {-1, 2, MIN, MAX}, v -> c -> c.steady(1, v));
    due(NONE, new YardCourt().steady(1, 0));
    due(NONE, new YardCourt().steady(0, 1));
    due(15, rich().steady(4, 0));
    due(1, rich().steady(4, 1));
    due(255, court(8, 0, "").steady(8, 0));
    due(NONE, court(7, 0, "").steady(8, 0));
    due(70, court(8, 0, "").steady(4, 1));

    promise(29, "How much is between, by the STEADY BENCH of m. NONE (as for steady).");
    noneOf(new int[] {-1, 0, 5, 8, 9, MIN, MAX}, v -> c -> c.swing(v));
    due(NONE, new YardCourt().swing(1));
    due(0, court(8, 0, "").swing(8));
    due(NONE, court(7, 0, "").swing(8));

    promise(30, "`int fairest()`: The FAIREST HOUR.");
    due(0, new YardCourt().fairest());
    YardCourt x = court(1, 1, "votes 0;votes 50 if hour=23");
    due(23, x.fairest());
    x.terms(0, 2);
    due(0, x.fairest());
    due(0, x.count(13));

    promise(31, "A CASE: how many there are. -1 (SIDE; BEASTS 0 .. 255, VOTES of others); -5.");
    refusedOf(-1, new int[] {-1, 2, MIN, MAX}, v -> c -> c.judged(v, 0, 0));
    refusedOf(-1, new int[] {-1, 256, 257, MIN, MAX}, v -> c -> c.judged(0, v, 0));
    refusedOf(-1, new int[] {-1, 2, 3, 256, MIN, MAX}, v -> c -> c.judged(0, 1, v));
    refused(-1, c -> c.judged(1, 255, 256));
    refused(-1, c -> c.judged(1, 0, 1));
    refused(-5, full(), c -> c.judged(1, 0, 0));
    x = new YardCourt();
    due(1, x.judged(0, 0, 0));
    due(2, x.judged(1, 255, 255));
    due(3, x.judged(0, 255, 0));

    promise(32, "A CASE goes, those behind it move up: how many are left. -2.");
    refusedOf(-2, new int[] {-1, 3, 20, MIN, MAX}, v -> c -> c.annul(v));
    refused(-2, new YardCourt(), c -> c.annul(0));
    x = new YardCourt();
    for (int k = 0; k < 4; k++) x.judged(0, 1 << k, 1 << k);
    due(3, x.annul(3));
    due(0, x.right(3, 0));
    due(2, x.annul(0));
    due(0, x.right(0, 0));
    due(1, x.right(1, 0));
    due(1, x.annul(0));
    due(1, x.right(2, 0));
    due(0, x.annul(0));
    due(0, x.right(2, 0));
    due(-2, x.annul(0));

    promise(33, "in how many CASES more than half of those that judged voted for who was right (beast NONE; what 0). NONE.");
    noneOf(new int[] {-2, 8, MIN, MAX}, v -> c -> c.right(v, 0));
    noneOf(new int[] {-1, 2, MIN, MAX}, v -> c -> c.right(0, v));
    noneOf(new int[] {-1, 1, 2, MIN, MAX}, v -> c -> c.right(NONE, v));
    int[][] halves = {{0, 0, 0, 0}, {0, 1, 1, 1}, {0, 1, 0, 0}, {0, 3, 1, 0}, {1, 3, 1, 0}, {0, 3, 3, 1}, {1, 3, 0, 1}, {0, 7, 3, 1},
      {0, 7, 1, 0}, {1, 7, 1, 1}, {1, 7, 3, 0}, {0, 255, 15, 0}, {0, 255, 31, 1}, {1, 255, 15, 0}, {1, 255, 7, 1}};
    for (int[] half : halves) {
      x = new YardCourt();
      x.judged(half[0], half[1], half[2]);
      due(half[3], x.right(NONE, 0));
    }
    due(0, new YardCourt().right(7, 0));
    due(0, new YardCourt().right(0, 1));

    promise(34, "In how many CASES two BEASTS 0 .. 7 judged both (what 0), and voted alike (1). NONE.");
    noneOf(new int[] {-1, 8, MIN, MAX}, v -> c -> c.agree(v, 0, 0));
    noneOf(new int[] {-1, 8, MIN, MAX}, v -> c -> c.agree(0, v, 0));
    noneOf(new int[] {-1, 2, MIN, MAX}, v -> c -> c.agree(0, 1, v));
    due(0, new YardCourt().agree(0, 7, 0));
    for (int votes = 0; votes < 4; votes++) {
      x = new YardCourt();
      x.judged(votes & 1, 129, (votes & 1) + (votes >> 1) * 128);
      due(1, x.agree(0, 7, 0));
      due(votes == 0 || votes == 3 ? 1 : 0, x.agree(7, 0, 1));
      due(0, x.agree(0, 6, 0));
      due(0, x.agree(6, 5, 1));
      x.annul(0);
      due(0, x.agree(0, 7, 0));
      due(0, x.agree(0, 7, 1));
    }
    due(20, manyCases().agree(0, 7, 0));
    due(10, manyCases().agree(0, 7, 1));
  }

  private static void promises35to40() {
    promise(35, "TRUST by all other CASES alone: upper (what 0), lower number (1). NONE.");
    noneOf(new int[] {-1, 3, 20, MIN, MAX}, v -> c -> c.again(v, 0));
    noneOf(new int[] {-1, 2, MIN, MAX}, v -> c -> c.again(0, v));
    due(NONE, new YardCourt().again(0, 0));
    YardCourt x = new YardCourt();
    x.judged(0, 1, 1);
    due(1, x.again(0, 0));
    due(2, x.again(0, 1));
    for (int k = 1; k < 20; k++) x.judged(0, 1, 1);
    due(20, x.again(19, 0));
    due(21, x.again(19, 1));
    due(20, x.again(0, 0));
    x.terms(5, 0);
    due(0, x.again(0, 0));
    due(1, x.again(0, 1));
    x.terms(5, 100);
    due(1, x.again(0, 0));
    due(1, x.again(0, 1));

    promise(36, "(of those that are there) by TRUST, the greatest first, of alike ones the lower. NONE.");
    noneOf(new int[] {-1, 4, 8, MIN, MAX}, v -> c -> c.trusted(v));
    due(NONE, new YardCourt().trusted(0));
    x = court(8, 0, "");
    for (int b = 0; b < 8; b++) due(b, x.trusted(b));
    // 1 right: 2 of 3; 3 right, 1 wrong: 4 of 6, which is alike.
    x = court(3, 0, "");
    for (int k = 0; k < 3; k++) x.judged(0, 2, 2);
    x.judged(0, 2, 0);
    x.judged(0, 4, 4);
    due(1, x.trusted(0));
    due(2, x.trusted(1));
    due(0, x.trusted(2));
    due(NONE, x.trusted(3));
    // One that is not there is not told, however right it was.
    x.judged(0, 128, 128);
    x.judged(0, 128, 128);
    due(1, x.trusted(0));

    promise(37, "NONE (VOTES of others; 0, 1 where PRIOR is 0).");
    noneOf(new int[] {-1, 256, MIN, MAX}, v -> c -> c.proof(v, 0, 0));
    noneOf(new int[] {-1, 2, 256, MIN, MAX}, v -> c -> c.proof(1, v, 0));
    noneOf(new int[] {-1, 2, MIN, MAX}, v -> c -> c.proof(1, 1, v));
    none(c -> c.proof(0, 1, 1));
    x = rich();
    for (int beasts : new int[] {0, 1, 128, 255}) {
      x.terms(5, 0);
      due(0, x.proof(beasts, beasts, 0));
      due(1, x.proof(beasts, beasts, 1));
      due(0, x.proof(beasts, 0, 0));
      due(1, x.proof(beasts, 0, 1));
      x.terms(5, 100);
      due(1, x.proof(beasts, 0, 0));
      due(1, x.proof(beasts, 0, 1));
    }
    x.terms(5, 1);
    due(1, x.proof(0, 0, 0));
    due(100, x.proof(0, 0, 1));
    x.terms(5, 99);
    due(99, x.proof(128, 0, 0));
    due(100, x.proof(128, 0, 1));

    promise(38, "APPEALS of 1, 3, 5, in millionths, cut. NONE.");
    noneOf(new int[] {-5, -1, 0, 2, 4, 6, 7, MIN, MAX}, v -> c -> c.appeal(v));
    x = court(8, 255, "votes 1");
    due(77255, x.appeal(1));
    due(1_000_000, court(8, 255, "votes 100").appeal(5));
    due(999_999, court(4, 15, "votes 99").appeal(1));
    due(0, court(1, 1, "votes 0").appeal(5));

    promise(39, "A SITTING, kept as the latest: who WINS (0, 1; 2: nobody by MINUTE 59). -1.");
    x = rich();
    x.sitting(0);
    int latest = x.lay(NONE, 0);
    String then = unkept(x);
    refused(-1, x, c -> c.sitting(-1));
    refused(-1, x, c -> c.sitting(1_000_001));
    dueSame(then, unkept(x));
    due(latest, x.lay(NONE, 0));
    due(2, court(1, 1, "lies 0").sitting(1));
    due(1, new YardCourt().sitting(1_000_000));

    promise(40, "NONE (it does not lie, is not on its BENCH, too).");
    noneOf(new int[] {-2, 3, 4, 7, 8, MIN, MAX}, v -> c -> c.lay(v, 0));
    noneOf(new int[] {-1, 2, MIN, MAX}, v -> c -> c.lay(0, v));
    noneOf(new int[] {-1, 2, MIN, MAX}, v -> c -> c.lay(NONE, v));
    none(new YardCourt(), c -> c.lay(NONE, 0));
    none(new YardCourt(), c -> c.lay(NONE, 1));
    none(court(1, 1, ""), c -> c.lay(0, 0));
    x = court(2, 3, "lies 0;lies 100 if beast=1;votes 100");
    x.sitting(0);
    due(NONE, x.lay(0, 0));
    due(NONE, x.lay(0, 1));
    due(0, x.lay(1, 0));
    due(0, x.lay(1, 1));
    x.bench(1);
    due(0, x.lay(1, 0));
    due(2, x.sitting(0));
    due(NONE, x.lay(1, 0));
    due(NONE, x.lay(1, 1));
    due(59, x.lay(NONE, 0));
    due(59, x.lay(NONE, 1));
  }

  private static void promises41to44() {
    promise(41, "IMAGE k is kept: 0; -1.");
    refusedOf(-1, new int[] {-1, 2, MIN, MAX}, v -> c -> c.image(v));
    YardCourt x = new YardCourt();
    due(0, x.image(0));
    due(0, x.image(1));
    due(0, x.back(0));
    due(0, x.back(1));

    promise(42, "BACK to IMAGE k: 0. -1; -2 it was not kept.");
    refusedOf(-1, new int[] {-1, 2, MIN, MAX}, v -> c -> c.back(v));
    refused(-2, c -> c.back(1));
    refused(-2, new YardCourt(), c -> c.back(0));
    x = new YardCourt();
    x.image(1);
    refused(-2, x, c -> c.back(0));
    due(0, x.back(1));
    due(0, x.back(1));
    // What is refused is counted on over a BACK, and it is no more.
    x.beast(10, 0, 0, 0, 0);
    x.back(1);
    due(1, x.count(6));
    due(1, x.count(7));
    due(0, x.status());
    x.beast(0, 0, 0, 0, 0);
    x.bench(1);
    x.back(1);
    due(0, x.count(0));
    due(0, x.count(4));

    promise(43, "6 .. 10 how many calls were REFUSED by -1, -2, -3, -5, -6 (IMAGES do not keep that), 11 the LAW in FORCE, 12 .. 17 TERMS 0 .. 5. NONE for others.");
    noneOf(new int[] {-2, -1, 18, 19, MIN, MAX}, v -> c -> c.count(v));
    x = full();
    int[] full = {8, 24, 6, 20, 2, 0, 0, 0, 0, 0, 0, 5, 1, 0, 0, 0, 0, 50};
    for (int what = 0; what < full.length; what++) due(full[what], x.count(what));
    x.image(0);
    for (int k = 0; k < 1; k++) x.bench(-1);
    for (int k = 0; k < 2; k++) x.force(9);
    for (int k = 0; k < 3; k++) x.bribe(0, 1);
    for (int k = 0; k < 4; k++) x.law();
    for (int k = 0; k < 5; k++) x.row();
    x.back(0);
    for (int k = 1; k <= 5; k++) due(k, x.count(5 + k));

    promise(44, "was REFUSED by; 0 if it was not, or ahead of any.");
    due(0, new YardCourt().status());
    x = new YardCourt();
    Call[] fine = {c -> c.image(0), c -> c.back(0), c -> c.beast(0, 0, 0, 0, 0), c -> c.put(0, 0, 1), c -> c.meal(0, 1),
      c -> c.bench(1), c -> c.terms(0, 1), c -> c.force(NONE), c -> c.bribe(0, 0), c -> c.judged(0, 1, 1), c -> c.annul(0),
      c -> c.sitting(0)};
    for (Call call : fine) {
      x.sitting(-1);
      due(-1, x.status());
      call.on(x);
      due(0, x.status());
    }
    x.row();
    due(-6, x.status());
    x.feed(0, 0, 0, 0, 0);
    due(-6, x.status());
    x.row();
    due(0, x.status());
    x.law();
    due(-6, x.status());
    enact(x, "votes 1");
    due(0, x.status());
    x.annul(99);
    Call[] silent = {c -> c.of(9, 9), YardCourt::fast, c -> c.hunger(0, 0), c -> c.feed(0, 0, 0, 0, 0), c -> c.end(99), c -> c.end(0),
      YardCourt::quashed, YardCourt::fault, c -> c.chance(0, 0, 0), c -> c.price(0, 0), c -> c.odds(NONE), c -> c.tips(0),
      c -> c.bribed(0, 0), c -> c.reply(0, 0, 0), c -> c.sure(0, 0), c -> c.value(0), c -> c.saddle(0), c -> c.enough(0, 0, 0),
      c -> c.steady(1, 0), c -> c.swing(1), YardCourt::fairest, c -> c.right(0, 0), c -> c.agree(0, 1, 0), c -> c.again(0, 0),
      c -> c.trusted(0), c -> c.proof(0, 0, 0), c -> c.appeal(1), c -> c.lay(0, 0), c -> c.count(0), YardCourt::status};
    for (Call call : silent) {
      call.on(x);
      due(-2, x.status());
    }
    due(1, x.count(7));
  }

  private static void manyCalls() {
    sentence("An object is used for at most 512 calls after it has been made");
    YardCourt x = new YardCourt();
    for (int k = 1; k <= 510; k++) x.bench(-1);
    due(510, x.count(6));
    due(-1, x.status());
    x = court(1, 1, "");
    for (int k = 0; k < 100; k++) {
      x.image(0);
      due(0, enact(x, "votes 7"));
      due(0, x.back(0));
    }
  }

  private static void readDocument() throws IOException {
    Path path = Path.of("../shared/DOC.md");
    if (Files.isReadable(path)) document = Files.readString(path);
  }

  public static void main(String[] args) throws IOException {
    readDocument();
    traits();
    hunger();
    benchAndTerms();
    order();
    tokens();
    limits();
    faults();
    sums();
    askedWith();
    tests();
    oddsTold();
    bribesTold();
    saddles();
    benches();
    casesTold();
    appeals();
    sittings();
    sittingsEnd();
    rows();
    imagesKept();
    promises1to9();
    promises10to16();
    promises17to21();
    promises22to27();
    promises28to34();
    promises35to40();
    promises41to44();
    manyCalls();
    if (PROMISES.size() != 44) fault("promises without a test: only " + PROMISES + " have one");
    System.out.println(sentences + " sentences, " + asked + " answers, " + wrong + " faults");
    if (wrong != 0) System.exit(1);
  }
}
