import java.util.Arrays;

/**
 * A court in which beasts judge by where they lie down. Every public method answers as the promise of
 * its name says; a call that is refused changes nothing but the counts of refusals and the status.
 */
public final class YardCourt {
  public static final int NONE = -1;

  private static final int BAD_NUMBER = -1;
  private static final int NOT_THERE = -2;
  private static final int CANNOT_BE = -3;
  private static final int NO_ROOM = -5;
  private static final int BAD_TEXT = -6;
  private static final int[] REFUSALS_TOLD = {1, 2, 3, 5, 6};

  private static final int MOST_BEASTS = 8;
  private static final int MOST_BITS = 256;
  private static final int MOST_MEALS = 24;
  private static final int MOST_LAWS = 6;
  private static final int MOST_CASES = 20;
  private static final int MOST_BYTES = 400;
  private static final int HOURS = 24;
  private static final int MINUTES = 60;
  private static final int MOST_SEED = 1_000_000;
  private static final int MILLION = 1_000_000;

  private static final int KIND = 0;
  private static final int HUNGRY = 1;
  private static final int GROWS = 2;
  private static final int SALT = 3;
  private static final int MILD = 4;
  private static final int FAVOURS = 5;
  private static final int TRAITS = 6;
  private static final int[] HIGHEST_TRAITS = {9, 99, 9, 9, 9, 3};
  private static final int BOTH_FAVOURS = 3;

  private static final int QUOTA = 0;
  private static final int HOUR = 1;
  private static final int RAIN = 2;
  private static final int PURSE = 3;
  private static final int PRIOR = 5;
  private static final int TERMS = 6;
  private static final int[] LOWEST_TERMS = {1, 0, 0, 0, 0, 0};
  private static final int[] HIGHEST_TERMS = {8, 23, 1, 999, 999, 100};
  private static final int[] FIRST_TERMS = {1, 0, 0, 0, 0, 50};

  private static final int VOTES = 0;
  private static final int LIES = 1;
  private static final int PRICE = 2;

  private final Yard now;
  private final Yard[] images;
  private final boolean[] kept;
  private final Tape tape;
  private final Reader reader;
  private final Asker asker;
  private final Tally tally;
  private final Bribery bribery;
  private final Sitting latest;
  private final Fraction weighed;
  private final Hundreds sum;
  private final Hundreds summand;
  private final int[] refusals;
  private int faultPlace;
  private int quashedRows;
  private int lastRefusal;

  public YardCourt() {
    now = new Yard();
    images = new Yard[] {new Yard(), new Yard()};
    kept = new boolean[2];
    tape = new Tape();
    reader = new Reader(tape);
    asker = new Asker();
    tally = new Tally();
    bribery = new Bribery();
    latest = new Sitting();
    weighed = new Fraction();
    sum = new Hundreds();
    summand = new Hundreds();
    refusals = new int[1 - BAD_TEXT];
    faultPlace = NONE;
  }

  // Beasts, meals, the bench and the terms.

  public int beast(int kind, int hungry, int grows, int salt, int mild) {
    boolean can = fitsTrait(KIND, kind) && fitsTrait(HUNGRY, hungry) && fitsTrait(GROWS, grows);
    if (!can || !fitsTrait(SALT, salt) || !fitsTrait(MILD, mild)) {
      return refuse(BAD_NUMBER);
    }
    if (now.beasts >= MOST_BEASTS) {
      return refuse(NO_ROOM);
    }
    int number = now.beasts;
    now.beasts++;
    now.setTrait(number, KIND, kind);
    now.setTrait(number, HUNGRY, hungry);
    now.setTrait(number, GROWS, grows);
    now.setTrait(number, SALT, salt);
    now.setTrait(number, MILD, mild);
    now.setTrait(number, FAVOURS, 0);
    return accept(number);
  }

  public int put(int beast, int what, int value) {
    if (!fitsTrait(what, value)) {
      return refuse(BAD_NUMBER);
    }
    if (!now.hasBeast(beast)) {
      return refuse(NOT_THERE);
    }
    int was = now.trait(beast, what);
    now.setTrait(beast, what, value);
    return accept(was);
  }

  public int of(int beast, int what) {
    if (!now.hasBeast(beast) || what < 0 || what >= TRAITS) {
      return NONE;
    }
    return now.trait(beast, what);
  }

  public int meal(int beast, int hour) {
    if (!isHour(hour)) {
      return refuse(BAD_NUMBER);
    }
    if (!now.hasBeast(beast)) {
      return refuse(NOT_THERE);
    }
    if (now.meals >= MOST_MEALS) {
      return refuse(NO_ROOM);
    }
    now.mealHours[beast] |= 1 << hour;
    now.meals++;
    return accept(now.meals);
  }

  public int fast() {
    int were = now.meals;
    now.meals = 0;
    Arrays.fill(now.mealHours, 0);
    bribery.forget();
    return were;
  }

  public int hunger(int beast, int hour) {
    if (!now.hasBeast(beast) || !isHour(hour)) {
      return NONE;
    }
    return now.hungerIn(beast, hour);
  }

  public int bench(int beasts) {
    if (beasts < 0 || beasts >= 1 << now.beasts) {
      return refuse(BAD_NUMBER);
    }
    int was = now.seats;
    now.seats = beasts;
    return accept(was);
  }

  public int terms(int what, int value) {
    if (what < 0 || what >= TERMS || value < LOWEST_TERMS[what] || value > HIGHEST_TERMS[what]) {
      return refuse(BAD_NUMBER);
    }
    int was = now.terms[what];
    now.terms[what] = value;
    return accept(was);
  }

  // The tape and what is read from it.

  public int feed(int a, int b, int c, int d, int e) {
    if (tape.length + 20 > MOST_BYTES) {
      return NONE;
    }
    tape.append(a);
    tape.append(b);
    tape.append(c);
    tape.append(d);
    tape.append(e);
    return tape.length;
  }

  public int end(int n) {
    if (n < 0 || n > tape.length) {
      return NONE;
    }
    tape.length = n;
    return n;
  }

  public int row() {
    if (tape.length == 0) {
      return refuse(BAD_TEXT);
    }
    int came = 0;
    quashedRows = 0;
    for (int i = 0; i < tape.length; i += 3) {
      boolean whole = i + 3 <= tape.length;
      if (whole && canJudge(tape.at(i), tape.at(i + 1), tape.at(i + 2)) && now.docket.cases < MOST_CASES) {
        now.docket.add(tape.at(i), tape.at(i + 1), tape.at(i + 2));
        came++;
      } else {
        quashedRows++;
      }
    }
    tape.length = 0;
    return accept(came);
  }

  public int quashed() {
    return quashedRows;
  }

  public int law() {
    if (now.laws >= MOST_LAWS) {
      tape.length = 0;
      return refuse(NO_ROOM);
    }
    Law made = reader.read();
    tape.length = 0;
    faultPlace = reader.place();
    if (made == null) {
      return refuse(BAD_TEXT);
    }
    now.book[now.laws] = made;
    now.laws++;
    return accept(now.laws - 1);
  }

  public int fault() {
    return faultPlace;
  }

  public int force(int law) {
    if (law < NONE || law >= now.laws) {
      return refuse(NOT_THERE);
    }
    int was = now.inForce;
    now.inForce = law;
    return accept(was);
  }

  // What the law in force tells, and the odds by it.

  public int chance(int beast, int hour, int favours) {
    if (!now.hasBeast(beast) || !isHour(hour) || favours < 0 || favours > BOTH_FAVOURS) {
      return NONE;
    }
    return asker.chanceOf(now, beast, hour, favours, 0);
  }

  public int price(int beast, int side) {
    if (!now.hasBeast(beast) || !isSide(side)) {
      return NONE;
    }
    return asker.priceOf(now, beast, side);
  }

  public long odds(int votes) {
    if (votes < NONE || votes > MOST_BEASTS) {
      return NONE;
    }
    tallyBench(now.terms[HOUR], NONE);
    return votes == NONE ? tally.atLeast(now.terms[QUOTA]) : tally.just(votes);
  }

  public long tips(int beast) {
    if (!now.isSeated(beast)) {
      return NONE;
    }
    tallyBench(now.terms[HOUR], beast);
    return tally.just(now.terms[QUOTA] - 1);
  }

  public int fairest() {
    long half = power(Integer.bitCount(now.seats));
    int best = 0;
    long nearest = Long.MAX_VALUE;
    for (int hour = 0; hour < HOURS; hour++) {
      tallyBench(hour, NONE);
      long off = Math.abs(2 * tally.atLeast(now.terms[QUOTA]) - half);
      if (off < nearest) {
        nearest = off;
        best = hour;
      }
    }
    return best;
  }

  public int appeal(int sittings) {
    if (sittings != 1 && sittings != 3 && sittings != 5) {
      return NONE;
    }
    int size = Integer.bitCount(now.seats);
    tallyBench(now.terms[HOUR], NONE);
    long won = tally.atLeast(now.terms[QUOTA]);
    long lost = power(size) - won;
    sum.become(0);
    for (int wins = sittings / 2 + 1; wins <= sittings; wins++) {
      summand.become(ways(sittings, wins));
      for (int k = 0; k < sittings; k++) {
        summand.multiply(k < wins ? won : lost);
      }
      sum.increase(summand);
    }
    return sum.millionths(size * sittings);
  }

  // Bribes.

  public long bribed(int zero, int one) {
    bribery.learn(now, asker);
    if (!bribery.can(0, zero) || !bribery.can(1, one)) {
      return NONE;
    }
    return bribery.winning(zero, one);
  }

  public int reply(int side, int other, int what) {
    if (!isSide(side) || !isEither(what)) {
      return NONE;
    }
    bribery.learn(now, asker);
    if (!bribery.can(1 - side, other)) {
      return NONE;
    }
    return bribery.told(side, bribery.bestReply(side, other), what);
  }

  public int sure(int side, int what) {
    if (!isSide(side) || !isEither(what)) {
      return NONE;
    }
    bribery.learn(now, asker);
    return bribery.told(side, bribery.safest(side), what);
  }

  public long value(int side) {
    if (!isSide(side)) {
      return NONE;
    }
    bribery.learn(now, asker);
    return bribery.left(side, bribery.safest(side));
  }

  public int saddle(int what) {
    if (what < 0 || what > 2) {
      return NONE;
    }
    bribery.learn(now, asker);
    long upper = bribery.left(0, bribery.safest(0));
    if (upper != bribery.left(1, bribery.safest(1))) {
      return what == 2 ? 0 : NONE;
    }
    if (what == 2) {
      return bribery.leaving(0, upper) * bribery.leaving(1, upper);
    }
    return bribery.firstLeaving(what, upper);
  }

  public int enough(int side, int millionths, int what) {
    if (!isSide(side) || millionths < 0 || millionths > MILLION || !isEither(what)) {
      return NONE;
    }
    bribery.learn(now, asker);
    return bribery.told(side, bribery.cheapest(side, millionths), what);
  }

  public int bribe(int side, int beasts) {
    if (!isSide(side) || (beasts & ~now.seats) != 0) {
      return refuse(BAD_NUMBER);
    }
    bribery.learn(now, asker);
    if (!bribery.can(side, beasts)) {
      return refuse(CANNOT_BE);
    }
    int cost = bribery.told(side, beasts, 1);
    now.terms[PURSE + side] -= cost;
    for (int b = 0; b < now.beasts; b++) {
      if ((beasts >> b & 1) == 1) {
        now.setTrait(b, FAVOURS, now.trait(b, FAVOURS) | 1 << side);
      }
    }
    return accept(cost);
  }

  public int steady(int m, int what) {
    if (m < 1 || m > now.beasts || !isEither(what)) {
      return NONE;
    }
    bribery.learn(now, asker);
    bribery.steadiest(m);
    return what == 0 ? bribery.steadyBench : bribery.steadyWays;
  }

  public long swing(int m) {
    if (m < 1 || m > now.beasts) {
      return NONE;
    }
    bribery.learn(now, asker);
    bribery.steadiest(m);
    return bribery.steadySwing;
  }

  // Cases known, and what a verdict is worth by them.

  public int judged(int side, int beasts, int votes) {
    if (!canJudge(side, beasts, votes)) {
      return refuse(BAD_NUMBER);
    }
    if (now.docket.cases >= MOST_CASES) {
      return refuse(NO_ROOM);
    }
    now.docket.add(side, beasts, votes);
    return accept(now.docket.cases);
  }

  public int annul(int judged) {
    if (judged < 0 || judged >= now.docket.cases) {
      return refuse(NOT_THERE);
    }
    now.docket.drop(judged);
    return accept(now.docket.cases);
  }

  public int right(int beast, int what) {
    if (beast == NONE && what == 0) {
      return now.docket.mostRight();
    }
    if (beast < 0 || beast >= MOST_BEASTS || !isEither(what)) {
      return NONE;
    }
    return now.docket.times(beast, what, NONE);
  }

  public int agree(int one, int other, int what) {
    boolean can = one >= 0 && one < MOST_BEASTS && other >= 0 && other < MOST_BEASTS;
    if (!can || !isEither(what)) {
      return NONE;
    }
    return now.docket.together(one, other, what == 1);
  }

  public long again(int judged, int what) {
    if (judged < 0 || judged >= now.docket.cases || !isEither(what)) {
      return NONE;
    }
    weighed.weigh(now, now.docket.judges[judged], now.docket.votes[judged], judged);
    return what == 0 ? weighed.upper : weighed.lower;
  }

  public int trusted(int i) {
    for (int beast = 0; beast < now.beasts; beast++) {
      int ahead = 0;
      for (int other = 0; other < now.beasts; other++) {
        if (now.docket.isAhead(other, beast)) {
          ahead++;
        }
      }
      if (ahead == i) {
        return beast;
      }
    }
    return NONE;
  }

  public long proof(int beasts, int votes, int what) {
    if (!canJudge(0, beasts, votes) || !isEither(what)) {
      return NONE;
    }
    weighed.weigh(now, beasts, votes, NONE);
    return what == 0 ? weighed.upper : weighed.lower;
  }

  // Sittings, images and what is told of all.

  public int sitting(int seed) {
    if (seed < 0 || seed > MOST_SEED) {
      return refuse(BAD_NUMBER);
    }
    return accept(latest.hold(now, asker, seed));
  }

  public int lay(int beast, int what) {
    if (!isEither(what) || !latest.held) {
      return NONE;
    }
    if (beast == NONE) {
      return latest.lastMinute;
    }
    if (beast < 0 || beast >= MOST_BEASTS || latest.sides[beast] == NONE) {
      return NONE;
    }
    return what == 0 ? latest.sides[beast] : latest.since[beast];
  }

  public int image(int k) {
    if (!isEither(k)) {
      return refuse(BAD_NUMBER);
    }
    images[k].become(now);
    kept[k] = true;
    return accept(0);
  }

  public int back(int k) {
    if (!isEither(k)) {
      return refuse(BAD_NUMBER);
    }
    if (!kept[k]) {
      return refuse(NOT_THERE);
    }
    now.become(images[k]);
    return accept(0);
  }

  public int count(int what) {
    if (what >= 6 && what <= 10) {
      return refusals[REFUSALS_TOLD[what - 6]];
    }
    if (what >= 12 && what < 12 + TERMS) {
      return now.terms[what - 12];
    }
    switch (what) {
      case 0: return now.beasts;
      case 1: return now.meals;
      case 2: return now.laws;
      case 3: return now.docket.cases;
      case 4: return Integer.bitCount(now.seats);
      case 5: return tape.length;
      case 11: return now.inForce;
      default: return NONE;
    }
  }

  public int status() {
    return lastRefusal;
  }

  // What the calls above share.

  private int refuse(int by) {
    refusals[-by]++;
    lastRefusal = by;
    return by;
  }

  /** Every call that may change what bribes can do ends here, so here alone the bribery is forgotten. */
  private int accept(int answer) {
    bribery.forget();
    lastRefusal = 0;
    return answer;
  }

  private void tallyBench(int hour, int without) {
    tally.clear();
    for (int b = 0; b < now.beasts; b++) {
      if (now.isSeated(b) && b != without) {
        tally.vote(asker.chanceOf(now, b, hour, now.trait(b, FAVOURS), 0));
      }
    }
  }

  private static boolean fitsTrait(int what, int value) {
    return what >= 0 && what < TRAITS && value >= 0 && value <= HIGHEST_TRAITS[what];
  }

  private static boolean isHour(int hour) {
    return hour >= 0 && hour < HOURS;
  }

  private static boolean isSide(int side) {
    return side == 0 || side == 1;
  }

  private static boolean isEither(int what) {
    return what == 0 || what == 1;
  }

  private static boolean canJudge(int side, int beasts, int votes) {
    return isSide(side) && beasts >= 0 && beasts < MOST_BITS && (votes & ~beasts) == 0;
  }

  /** A hundred multiplied by itself so often; eight times still fits. */
  private static long power(int times) {
    long product = 1;
    for (int k = 0; k < times && k < MOST_BEASTS; k++) {
      product *= 100;
    }
    return product;
  }

  /** In how many ways so many of them can be chosen. */
  private static int ways(int all, int chosen) {
    int product = 1;
    for (int k = 1; k <= chosen; k++) {
      product = product * (all - k + 1) / k;
    }
    return product;
  }

  /** All that an image keeps. */
  private static final class Yard {
    private final int[] traits;
    private final int[] mealHours;
    private final int[] terms;
    private final Law[] book;
    private final Docket docket;
    private int beasts;
    private int meals;
    private int seats;
    private int laws;
    private int inForce;

    Yard() {
      traits = new int[MOST_BEASTS * TRAITS];
      mealHours = new int[MOST_BEASTS];
      terms = FIRST_TERMS.clone();
      book = new Law[MOST_LAWS];
      docket = new Docket();
      inForce = NONE;
    }

    void become(Yard other) {
      System.arraycopy(other.traits, 0, traits, 0, traits.length);
      System.arraycopy(other.mealHours, 0, mealHours, 0, mealHours.length);
      System.arraycopy(other.terms, 0, terms, 0, terms.length);
      for (int i = 0; i < MOST_LAWS; i++) {
        book[i] = other.book[i];
      }
      docket.become(other.docket);
      beasts = other.beasts;
      meals = other.meals;
      seats = other.seats;
      laws = other.laws;
      inForce = other.inForce;
    }

    boolean hasBeast(int beast) {
      return beast >= 0 && beast < beasts;
    }

    boolean isSeated(int beast) {
      return hasBeast(beast) && (seats >> beast & 1) == 1;
    }

    int trait(int beast, int what) {
      return traits[beast * TRAITS + what];
    }

    void setTrait(int beast, int what, int value) {
      traits[beast * TRAITS + what] = value;
    }

    int hungerIn(int beast, int hour) {
      int grows = trait(beast, GROWS);
      int till = mealHours[beast] & (2 << hour) - 1;
      if (till == 0) {
        return Math.min(99, trait(beast, HUNGRY) + grows * hour);
      }
      int latestMeal = 31 - Integer.numberOfLeadingZeros(till);
      return Math.min(99, grows * (hour - latestMeal));
    }

    /** The law in force; null where there is none. */
    Law ruling() {
      return inForce >= 0 && inForce < laws ? book[inForce] : null;
    }
  }

  /** The cases known. */
  private static final class Docket {
    private final int[] rightSides;
    private final int[] judges;
    private final int[] votes;
    private int cases;

    Docket() {
      rightSides = new int[MOST_CASES];
      judges = new int[MOST_CASES];
      votes = new int[MOST_CASES];
    }

    void become(Docket other) {
      System.arraycopy(other.rightSides, 0, rightSides, 0, MOST_CASES);
      System.arraycopy(other.judges, 0, judges, 0, MOST_CASES);
      System.arraycopy(other.votes, 0, votes, 0, MOST_CASES);
      cases = other.cases;
    }

    void add(int side, int beasts, int votesForZero) {
      if (cases >= MOST_CASES) {
        return;
      }
      rightSides[cases] = side;
      judges[cases] = beasts;
      votes[cases] = votesForZero;
      cases++;
    }

    void drop(int dropped) {
      for (int i = dropped + 1; i < cases; i++) {
        rightSides[i - 1] = rightSides[i];
        judges[i - 1] = judges[i];
        votes[i - 1] = votes[i];
      }
      cases--;
    }

    /** Those of its judges that voted for who was right, as bits. */
    int votedRight(int i) {
      return rightSides[i] == 0 ? votes[i] : judges[i] & ~votes[i];
    }

    /** How often a beast was right (what 0) or wrong (1) in all cases but one. */
    int times(int beast, int what, int but) {
      int times = 0;
      for (int i = 0; i < cases; i++) {
        int those = what == 0 ? votedRight(i) : judges[i] & ~votedRight(i);
        if (i != but && (those >> beast & 1) == 1) {
          times++;
        }
      }
      return times;
    }

    int mostRight() {
      int times = 0;
      for (int i = 0; i < cases; i++) {
        if (2 * Integer.bitCount(votedRight(i)) > Integer.bitCount(judges[i])) {
          times++;
        }
      }
      return times;
    }

    int together(int one, int other, boolean alike) {
      int times = 0;
      for (int i = 0; i < cases; i++) {
        boolean both = (judges[i] >> one & judges[i] >> other & 1) == 1;
        boolean same = (votes[i] >> one & 1) == (votes[i] >> other & 1);
        if (both && (same || !alike)) {
          times++;
        }
      }
      return times;
    }

    boolean isAhead(int one, int other) {
      int oneRight = times(one, 0, NONE) + 1;
      int otherRight = times(other, 0, NONE) + 1;
      int oneAll = oneRight + times(one, 1, NONE) + 1;
      int otherAll = otherRight + times(other, 1, NONE) + 1;
      int more = oneRight * otherAll - otherRight * oneAll;
      return more > 0 || more == 0 && one < other;
    }
  }

  /** A proof, in lowest terms. */
  private static final class Fraction {
    private long upper;
    private long lower;

    Fraction() {
      lower = 1;
    }

    /** The wholes of the trusts are the same on both sides, so that they need not be divided by. */
    void weigh(Yard yard, int beasts, int votes, int but) {
      long zero = yard.terms[PRIOR];
      long one = 100 - zero;
      for (int b = 0; b < MOST_BEASTS; b++) {
        if ((beasts >> b & 1) == 1) {
          int right = yard.docket.times(b, 0, but) + 1;
          int wrong = yard.docket.times(b, 1, but) + 1;
          boolean forZero = (votes >> b & 1) == 1;
          zero *= forZero ? right : wrong;
          one *= forZero ? wrong : right;
        }
      }
      long shared = Math.max(1, commonDivisor(zero, zero + one));
      upper = zero / shared;
      lower = (zero + one) / shared;
    }

    private static long commonDivisor(long one, long other) {
      long a = one;
      long b = other;
      for (int k = 0; k < 1000 && b != 0; k++) {
        long rest = a % b;
        a = b;
        b = rest;
      }
      return a;
    }
  }

  /** The bytes that were fed. */
  private static final class Tape {
    private final int[] bytes;
    private int length;

    Tape() {
      bytes = new int[MOST_BYTES];
    }

    void append(int four) {
      for (int shift = 24; shift >= 0 && length < MOST_BYTES; shift -= 8) {
        bytes[length] = four >> shift & 255;
        length++;
      }
    }

    int at(int place) {
      return place >= 0 && place < length ? bytes[place] : NONE;
    }
  }

  /** A text as steps for the asker: each clause its sum's, then its test's (none without "if"). */
  private static final class Law {
    private static final int MOST_CLAUSES = 12;

    private static final int NUMBER = 0;
    private static final int WORD = 1;
    private static final int ADD = 2;
    private static final int SUBTRACT = 3;
    private static final int MULTIPLY = 4;
    private static final int DIVIDE = 5;
    private static final int LESS = 6;
    private static final int MORE = 7;
    private static final int EQUAL = 8;
    private static final int NOT = 9;
    private static final int OR_ELSE = 10;
    private static final int AND_THEN = 11;
    private static final int ARGUMENTS = 1024;

    private final int[] heads;
    private final int[] testsFrom;
    private final int[] ends;
    private final int[] steps;

    Law(int[] heads, int[] testsFrom, int[] ends, int[] steps) {
      this.heads = heads;
      this.testsFrom = testsFrom;
      this.ends = ends;
      this.steps = steps;
    }
  }

  /** Reads a text: every method that reads stops at the first token that can't go on, and answers false. */
  private static final class Reader {
    private static final int MOST_PARTS = 50;
    private static final int MOST_BRACKETS = 8;
    private static final int HIGHEST_NUMBER = 1000;

    private static final int AT_END = 0;
    private static final int LETTERS = 1;
    private static final int DIGITS = 2;
    private static final int SIGN = 3;

    private final Tape text;
    private final int[] heads;
    private final int[] testsFrom;
    private final int[] ends;
    private final int[] steps;
    private int clauses;
    private int length;
    private int parts;
    private int start;
    private int behind;
    private int token;
    private int number;
    private boolean good;

    Reader(Tape text) {
      this.text = text;
      heads = new int[Law.MOST_CLAUSES];
      testsFrom = new int[Law.MOST_CLAUSES];
      ends = new int[Law.MOST_CLAUSES];
      steps = new int[MOST_BYTES];
      good = true;
    }

    /** The law that the text is; null where it has a fault. */
    Law read() {
      clauses = 0;
      length = 0;
      parts = 0;
      behind = 0;
      advance();
      good = readClause();
      for (int k = 0; k < MOST_BYTES && good && isSign(';'); k++) {
        advance();
        good = readClause();
      }
      good = good && token == AT_END;
      if (!good) {
        return null;
      }
      return new Law(Arrays.copyOf(heads, clauses), Arrays.copyOf(testsFrom, clauses),
          Arrays.copyOf(ends, clauses), Arrays.copyOf(steps, length));
    }

    /** Where the latest text has its fault; NONE without. */
    int place() {
      return good ? NONE : start;
    }

    private void advance() {
      int at = behind;
      while (at < text.length && text.at(at) == ' ') {
        at++;
      }
      start = at;
      int first = text.at(at);
      number = 0;
      if (at >= text.length) {
        token = AT_END;
      } else if (isLetter(first)) {
        token = LETTERS;
        while (at < text.length && isLetter(text.at(at))) {
          at++;
        }
      } else if (isDigit(first)) {
        token = DIGITS;
        while (at < text.length && isDigit(text.at(at))) {
          number = Math.min(HIGHEST_NUMBER + 1, number * 10 + text.at(at) - '0');
          at++;
        }
      } else {
        token = SIGN;
        at++;
      }
      behind = at;
    }

    private static boolean isLetter(int sign) {
      return sign >= 'a' && sign <= 'z';
    }

    private static boolean isDigit(int sign) {
      return sign >= '0' && sign <= '9';
    }

    private boolean isSign(char sign) {
      return token == SIGN && text.at(start) == sign;
    }

    private boolean isWord(String word) {
      if (token != LETTERS || behind - start != word.length()) {
        return false;
      }
      for (int i = 0; i < word.length(); i++) {
        if (text.bytes[start + i] != word.charAt(i)) {
          return false;
        }
      }
      return true;
    }

    private void emit(int kind, int argument) {
      if (length < MOST_BYTES) {
        steps[length] = kind * Law.ARGUMENTS + argument;
        length++;
      }
    }

    private boolean readClause() {
      int head = headRead();
      if (head == NONE || clauses >= Law.MOST_CLAUSES) {
        return false;
      }
      advance();
      if (!readSum(0)) {
        return false;
      }
      int testFrom = length;
      if (isWord("if")) {
        advance();
        if (!readTest(0)) {
          return false;
        }
      }
      heads[clauses] = head;
      testsFrom[clauses] = testFrom;
      ends[clauses] = length;
      clauses++;
      return true;
    }

    private int headRead() {
      if (isWord("votes")) {
        return VOTES;
      }
      if (isWord("lies")) {
        return LIES;
      }
      return isWord("price") ? PRICE : NONE;
    }

    private boolean readTest(int depth) {
      boolean fine = readBoth(depth);
      for (int k = 0; k < MOST_BYTES && fine && isWord("or"); k++) {
        int jump = length;
        emit(Law.OR_ELSE, 0);
        advance();
        fine = readBoth(depth);
        aimHere(jump);
      }
      return fine;
    }

    private boolean readBoth(int depth) {
      boolean fine = readPlain(depth);
      for (int k = 0; k < MOST_BYTES && fine && isWord("and"); k++) {
        int jump = length;
        emit(Law.AND_THEN, 0);
        advance();
        fine = readPlain(depth);
        aimHere(jump);
      }
      return fine;
    }

    /** The step that leaps over what can't matter leaps to what comes next. */
    private void aimHere(int jump) {
      if (jump >= 0 && jump < MOST_BYTES) {
        steps[jump] += length;
      }
    }

    private boolean readPlain(int depth) {
      boolean turned = false;
      for (int k = 0; k < MOST_BYTES && isWord("not"); k++) {
        turned = !turned;
        advance();
      }
      boolean fine = isSign('(') ? readBracketedTest(depth) : readComparison(depth);
      if (fine && turned) {
        emit(Law.NOT, 0);
      }
      return fine;
    }

    private boolean readBracketedTest(int depth) {
      if (depth >= MOST_BRACKETS) {
        return false;
      }
      advance();
      if (!readTest(depth + 1) || !isSign(')')) {
        return false;
      }
      advance();
      return true;
    }

    private boolean readComparison(int depth) {
      if (!readSum(depth)) {
        return false;
      }
      int kind = isSign('<') ? Law.LESS : isSign('>') ? Law.MORE : isSign('=') ? Law.EQUAL : NONE;
      if (kind == NONE) {
        return false;
      }
      advance();
      if (!readSum(depth)) {
        return false;
      }
      emit(kind, 0);
      return true;
    }

    private boolean readSum(int depth) {
      boolean fine = readTerm(depth);
      for (int k = 0; k < MOST_BYTES && fine && (isSign('+') || isSign('-')); k++) {
        int kind = isSign('+') ? Law.ADD : Law.SUBTRACT;
        advance();
        fine = readTerm(depth);
        emit(kind, 0);
      }
      return fine;
    }

    private boolean readTerm(int depth) {
      boolean fine = readPart(depth);
      for (int k = 0; k < MOST_BYTES && fine && (isSign('*') || isSign('/')); k++) {
        int kind = isSign('*') ? Law.MULTIPLY : Law.DIVIDE;
        advance();
        fine = readPart(depth);
        emit(kind, 0);
      }
      return fine;
    }

    private boolean readPart(int depth) {
      if (isSign('[')) {
        return readBracketedSum(depth);
      }
      int word = wordRead();
      boolean isNumber = token == DIGITS && number <= HIGHEST_NUMBER;
      if (word == NONE && !isNumber || parts >= MOST_PARTS) {
        return false;
      }
      parts++;
      emit(isNumber ? Law.NUMBER : Law.WORD, isNumber ? number : word);
      advance();
      return true;
    }

    private boolean readBracketedSum(int depth) {
      if (depth >= MOST_BRACKETS) {
        return false;
      }
      advance();
      if (!readSum(depth + 1) || !isSign(']')) {
        return false;
      }
      advance();
      return true;
    }

    private int wordRead() {
      if (isWord("beast")) {
        return Asker.BEAST_WORD;
      }
      if (isWord("kind")) {
        return Asker.KIND_WORD;
      }
      if (isWord("hunger")) {
        return Asker.HUNGER_WORD;
      }
      if (isWord("salt")) {
        return Asker.SALT_WORD;
      }
      if (isWord("mild")) {
        return Asker.MILD_WORD;
      }
      if (isWord("favour")) {
        return Asker.FAVOUR_WORD;
      }
      if (isWord("hour")) {
        return Asker.HOUR_WORD;
      }
      if (isWord("rain")) {
        return Asker.RAIN_WORD;
      }
      if (isWord("side")) {
        return Asker.SIDE_WORD;
      }
      return isWord("minute") ? Asker.MINUTE_WORD : NONE;
    }
  }

  /** Asks the law in force. */
  private static final class Asker {
    private static final int BEAST_WORD = 0;
    private static final int KIND_WORD = 1;
    private static final int HUNGER_WORD = 2;
    private static final int SALT_WORD = 3;
    private static final int MILD_WORD = 4;
    private static final int FAVOUR_WORD = 5;
    private static final int HOUR_WORD = 6;
    private static final int RAIN_WORD = 7;
    private static final int SIDE_WORD = 8;
    private static final int MINUTE_WORD = 9;
    private static final int WORDS = 10;
    private static final long BEYOND = 1_000_000_000L;

    private final int[] words;
    private final long[] stack;
    private int height;
    private long answer;

    Asker() {
      words = new int[WORDS];
      stack = new long[Reader.MOST_PARTS + 1];
    }

    int chanceOf(Yard yard, int beast, int hour, int favours, int minute) {
      learn(yard, beast, hour, favours);
      words[MINUTE_WORD] = minute;
      return told(yard.ruling(), VOTES, 50, 100);
    }

    int priceOf(Yard yard, int beast, int side) {
      learn(yard, beast, yard.terms[HOUR], yard.trait(beast, FAVOURS));
      words[SIDE_WORD] = side;
      return told(yard.ruling(), PRICE, 10, 999);
    }

    int liesOf(Yard yard, int beast, int minute) {
      learn(yard, beast, yard.terms[HOUR], yard.trait(beast, FAVOURS));
      words[MINUTE_WORD] = minute;
      return told(yard.ruling(), LIES, 10, 100);
    }

    private void learn(Yard yard, int beast, int hour, int favours) {
      words[BEAST_WORD] = beast;
      words[KIND_WORD] = yard.trait(beast, KIND);
      words[HUNGER_WORD] = yard.hungerIn(beast, hour);
      words[SALT_WORD] = yard.trait(beast, SALT);
      words[MILD_WORD] = yard.trait(beast, MILD);
      words[FAVOUR_WORD] = favours;
      words[HOUR_WORD] = hour;
      words[RAIN_WORD] = yard.terms[RAIN];
      words[SIDE_WORD] = NONE;
      words[MINUTE_WORD] = 0;
    }

    private int told(Law law, int head, int without, int most) {
      if (law == null) {
        return without;
      }
      for (int i = law.heads.length - 1; i >= 0; i--) {
        if (law.heads[i] == head && holds(law, i)) {
          return (int) Math.max(0, Math.min(most, answer));
        }
      }
      return without;
    }

    /** If a clause holds; the answer is then what its sum tells. */
    private boolean holds(Law law, int clause) {
      int from = clause == 0 ? 0 : law.ends[clause - 1];
      int testFrom = law.testsFrom[clause];
      if (testFrom < law.ends[clause]) {
        boolean whole = follow(law, testFrom, law.ends[clause]);
        if (!whole || stack[0] == 0) {
          return false;
        }
      }
      boolean whole = follow(law, from, testFrom);
      answer = stack[0];
      return whole;
    }

    /** Follows steps to the one number that they leave; false if they are broken. Leaps go forward alone. */
    private boolean follow(Law law, int from, int to) {
      height = 0;
      for (int at = from; at < to && at < law.steps.length; at++) {
        int kind = law.steps[at] / Law.ARGUMENTS;
        int argument = law.steps[at] % Law.ARGUMENTS;
        if (kind == Law.NUMBER) {
          push(argument);
        } else if (kind == Law.WORD) {
          push(argument < WORDS ? words[argument] : 0);
        } else if (height == 0) {
          return false;
        } else if (kind == Law.NOT) {
          stack[height - 1] = 1 - stack[height - 1];
        } else if (kind == Law.OR_ELSE || kind == Law.AND_THEN) {
          boolean settled = (stack[height - 1] == 1) == (kind == Law.OR_ELSE);
          if (settled) {
            at = Math.max(at, argument - 1);
          } else {
            height--;
          }
        } else if (!combine(kind)) {
          return false;
        }
      }
      return height == 1;
    }

    private void push(int number) {
      if (height < stack.length) {
        stack[height] = number;
        height++;
      }
    }

    private boolean combine(int kind) {
      if (height < 2 || kind == Law.DIVIDE && stack[height - 1] == 0) {
        return false;
      }
      height--;
      long one = stack[height - 1];
      long other = stack[height];
      long result;
      switch (kind) {
        case Law.ADD: result = one + other; break;
        case Law.SUBTRACT: result = one - other; break;
        case Law.MULTIPLY: result = one * other; break;
        case Law.DIVIDE: result = other == 0 ? 0 : one / other; break;
        case Law.LESS: result = one < other ? 1 : 0; break;
        case Law.MORE: result = one > other ? 1 : 0; break;
        default: result = one == other ? 1 : 0;
      }
      stack[height - 1] = result;
      return result >= -BEYOND && result <= BEYOND;
    }
  }

  /** In how many ways, of a hundred for each voter, SIDE 0 has so many votes. */
  private static final class Tally {
    private final long[] ways;
    private int voters;

    Tally() {
      ways = new long[MOST_BEASTS + 1];
      ways[0] = 1;
    }

    void clear() {
      Arrays.fill(ways, 0);
      ways[0] = 1;
      voters = 0;
    }

    void vote(int chance) {
      if (voters >= MOST_BEASTS) {
        return;
      }
      voters++;
      for (int k = voters; k > 0; k--) {
        ways[k] = ways[k] * (100 - chance) + ways[k - 1] * chance;
      }
      ways[0] *= 100 - chance;
    }

    /** All votes of another tally, and one vote more. */
    void voteAfter(Tally other, int chance) {
      System.arraycopy(other.ways, 0, ways, 0, ways.length);
      voters = other.voters;
      vote(chance);
    }

    long just(int votes) {
      return votes >= 0 && votes <= voters ? ways[votes] : 0;
    }

    long atLeast(int votes) {
      long all = 0;
      for (int k = Math.max(0, votes); k <= voters; k++) {
        all += ways[k];
      }
      return all;
    }
  }

  /** What bribes cost and do, learnt once and kept until something changes. */
  private static final class Bribery {
    private final int[] chances;
    private final int[] favours;
    private final int[] prices;
    private final int[] costs;
    private final int[] purses;
    private final long[] leftAtWorst;
    private final int[] bench;
    private final Tally[] tallies;
    private final Tally tally;
    private int beasts;
    private int seats;
    private int seated;
    private int quota;
    private boolean known;
    private boolean surveyed;
    private int steadyBench;
    private int steadyWays;
    private long steadySwing;

    Bribery() {
      chances = new int[MOST_BEASTS * (BOTH_FAVOURS + 1)];
      favours = new int[MOST_BEASTS];
      prices = new int[2 * MOST_BEASTS];
      costs = new int[2 * MOST_BITS];
      purses = new int[2];
      leftAtWorst = new long[2 * MOST_BITS];
      bench = new int[MOST_BEASTS];
      tallies = new Tally[MOST_BEASTS];
      for (int k = 0; k < MOST_BEASTS; k++) {
        tallies[k] = new Tally();
      }
      tally = new Tally();
    }

    void forget() {
      known = false;
    }

    void learn(Yard yard, Asker asker) {
      if (known) {
        return;
      }
      known = true;
      surveyed = false;
      beasts = yard.beasts;
      seats = yard.seats;
      quota = yard.terms[QUOTA];
      seated = 0;
      for (int b = 0; b < beasts; b++) {
        if (yard.isSeated(b)) {
          bench[seated] = b;
          seated++;
        }
        favours[b] = yard.trait(b, FAVOURS);
        for (int f = 0; f <= BOTH_FAVOURS; f++) {
          chances[b * (BOTH_FAVOURS + 1) + f] = asker.chanceOf(yard, b, yard.terms[HOUR], f, 0);
        }
      }
      for (int side = 0; side < 2; side++) {
        purses[side] = yard.terms[PURSE + side];
        for (int b = 0; b < beasts; b++) {
          prices[side * MOST_BEASTS + b] = asker.priceOf(yard, b, side);
        }
        addPrices(side);
      }
    }

    private void addPrices(int side) {
      costs[side * MOST_BITS] = 0;
      for (int bits = 1; bits < 1 << beasts; bits++) {
        int lowest = Integer.numberOfTrailingZeros(bits);
        int rest = bits & bits - 1;
        costs[side * MOST_BITS + bits] = costs[side * MOST_BITS + rest] + prices[side * MOST_BEASTS + lowest];
      }
    }

    private int cost(int side, int bits) {
      return costs[side * MOST_BITS + bits];
    }

    private boolean affords(int side, int bits) {
      return cost(side, bits) <= purses[side];
    }

    boolean can(int side, int bits) {
      return (bits & ~seats) == 0 && affords(side, bits);
    }

    /** Bribes as bits (what 0), what they cost (1); NONE where there are none. */
    int told(int side, int bits, int what) {
      return bits == NONE || what == 0 ? bits : cost(side, bits);
    }

    private int chanceWith(int beast, int favoursToo) {
      return chances[beast * (BOTH_FAVOURS + 1) + (favours[beast] | favoursToo)];
    }

    long winning(int zero, int one) {
      return winningOn(seats, quota, zero, one);
    }

    private long winningOn(int benchBits, int needed, int zero, int one) {
      tally.clear();
      for (int b = 0; b < beasts; b++) {
        if ((benchBits >> b & 1) == 1) {
          tally.vote(chanceWith(b, zero >> b & 1 | (one >> b & 1) << 1));
        }
      }
      return tally.atLeast(needed);
    }

    /** SIDE 0's odds with bribes of a side and of the other. */
    private long winningBy(int side, int own, int other) {
      return side == 0 ? winning(own, other) : winning(other, own);
    }

    /** What SIDE 0's odds are worth to a side: more is better. */
    private static long worth(int side, long odds) {
      return side == 0 ? odds : -odds;
    }

    int bestReply(int side, int other) {
      int best = 0;
      long most = Long.MIN_VALUE;
      for (int bits = 0; bits <= seats; bits++) {
        if (can(side, bits)) {
          long worth = worth(side, winningBy(side, bits, other));
          if (worth > most || worth == most && cost(side, bits) < cost(side, best)) {
            most = worth;
            best = bits;
          }
        }
      }
      return best;
    }

    /** The cheapest by which a side's odds are so many millionths at least; NONE where none are. */
    int cheapest(int side, int millionths) {
      int best = NONE;
      for (int bits = 0; bits <= seats; bits++) {
        if (can(side, bits) && (best == NONE || cost(side, bits) < cost(side, best))) {
          long odds = winningBy(side, bits, 0);
          if (reaches(side == 0 ? odds : power(seated) - odds, millionths)) {
            best = bits;
          }
        }
      }
      return best;
    }

    /** A million is a hundred three times, so that one side alone is multiplied and nothing is cut. */
    private boolean reaches(long odds, int millionths) {
      return seated < 3 ? odds * power(3 - seated) >= millionths : odds >= millionths * power(seated - 3);
    }

    /** SIDE 0's odds when a side's bribes meet the worst reply. */
    long left(int side, int bits) {
      survey();
      return leftAtWorst[side * MOST_BITS + bits];
    }

    int safest(int side) {
      int best = 0;
      for (int bits = 1; bits <= seats; bits++) {
        if (can(side, bits)) {
          long more = worth(side, left(side, bits)) - worth(side, left(side, best));
          if (more > 0 || more == 0 && cost(side, bits) < cost(side, best)) {
            best = bits;
          }
        }
      }
      return best;
    }

    /** How many bribes of a side leave SIDE 0 just these odds at worst. */
    int leaving(int side, long odds) {
      int many = 0;
      for (int bits = 0; bits <= seats; bits++) {
        if (can(side, bits) && left(side, bits) == odds) {
          many++;
        }
      }
      return many;
    }

    /**
     * The lowest bribes of a side that leave SIDE 0 just these odds at worst. Where both sides can make sure
     * of the same odds, any such bribes of one and any such of the other are a saddle, and no others are.
     */
    int firstLeaving(int side, long odds) {
      for (int bits = 0; bits <= seats; bits++) {
        if (can(side, bits) && left(side, bits) == odds) {
          return bits;
        }
      }
      return NONE;
    }

    private void survey() {
      if (surveyed) {
        return;
      }
      surveyed = true;
      Arrays.fill(leftAtWorst, 0, MOST_BITS, Long.MAX_VALUE);
      Arrays.fill(leftAtWorst, MOST_BITS, 2 * MOST_BITS, 0);
      if (seated == 0) {
        note(0, 0, 0);
      } else {
        tallies[0].clear();
        pairFrom(0, 0, 0);
      }
    }

    /** Goes through all bribes of both for the beasts from this place of the bench on. */
    private void pairFrom(int place, int zero, int one) {
      if (place >= seated) {
        return;
      }
      int beast = bench[place];
      boolean isLast = place + 1 >= seated;
      long wonAlready = isLast ? tallies[place].atLeast(quota) * 100 : 0;
      long turned = isLast ? tallies[place].just(quota - 1) : 0;
      for (int both = 0; both <= BOTH_FAVOURS; both++) {
        int nextZero = zero | (both & 1) << beast;
        int nextOne = one | (both >> 1) << beast;
        if (affords(0, nextZero) && affords(1, nextOne)) {
          int chance = chanceWith(beast, both);
          if (isLast) {
            note(nextZero, nextOne, wonAlready + turned * chance);
          } else {
            tallies[place + 1].voteAfter(tallies[place], chance);
            pairFrom(place + 1, nextZero, nextOne);
          }
        }
      }
    }

    private void note(int zero, int one, long odds) {
      leftAtWorst[zero] = Math.min(leftAtWorst[zero], odds);
      leftAtWorst[MOST_BITS + one] = Math.max(leftAtWorst[MOST_BITS + one], odds);
    }

    /** Finds the steady bench of m, in how many ways one has so little, and how much that is. */
    void steadiest(int m) {
      steadyBench = NONE;
      steadyWays = 0;
      steadySwing = Long.MAX_VALUE;
      for (int bits = 1; bits < 1 << beasts; bits++) {
        if (Integer.bitCount(bits) == m) {
          long between = bestAlone(0, bits, m / 2 + 1) + bestAlone(1, bits, m / 2 + 1);
          if (between < steadySwing) {
            steadySwing = between;
            steadyBench = bits;
            steadyWays = 0;
          }
          if (between == steadySwing) {
            steadyWays++;
          }
        }
      }
    }

    /** The most that bribes of one side alone are worth to it on a bench. */
    private long bestAlone(int side, int benchBits, int needed) {
      long most = Long.MIN_VALUE;
      for (int bits = 0; bits <= benchBits; bits++) {
        if ((bits & ~benchBits) == 0 && affords(side, bits)) {
          long odds = side == 0 ? winningOn(benchBits, needed, bits, 0) : winningOn(benchBits, needed, 0, bits);
          most = Math.max(most, worth(side, odds));
        }
      }
      return most;
    }
  }

  /** The latest sitting. */
  private static final class Sitting {
    private final int[] sides;
    private final int[] since;
    private final int[] votes;
    private boolean held;
    private int lastMinute;
    private int drawn;

    Sitting() {
      sides = new int[MOST_BEASTS];
      since = new int[MOST_BEASTS];
      votes = new int[2];
    }

    int hold(Yard yard, Asker asker, int seed) {
      held = true;
      drawn = seed;
      Arrays.fill(sides, NONE);
      Arrays.fill(votes, 0);
      int size = Integer.bitCount(yard.seats);
      for (int minute = 0; minute < MINUTES; minute++) {
        lastMinute = minute;
        pass(yard, asker, minute);
        if (votes[0] >= yard.terms[QUOTA]) {
          return 0;
        }
        if (size - votes[1] < yard.terms[QUOTA]) {
          return 1;
        }
      }
      return 2;
    }

    private void pass(Yard yard, Asker asker, int minute) {
      for (int b = 0; b < yard.beasts; b++) {
        if (yard.isSeated(b) && sides[b] == NONE && draw() < asker.liesOf(yard, b, minute)) {
          int chance = asker.chanceOf(yard, b, yard.terms[HOUR], yard.trait(b, FAVOURS), minute);
          sides[b] = draw() < chance ? 0 : 1;
          since[b] = minute;
          votes[sides[b]]++;
        }
      }
    }

    /** A draw of a hundred. */
    private int draw() {
      drawn = (drawn * 1103 + 12345) % 1_000_003;
      return drawn % 100;
    }
  }

  /** A number of up to 48 digits of a hundred, the lowest first: odds of appeals are too long for a long. */
  private static final class Hundreds {
    private static final int LENGTH = 48;
    private final long[] digits;

    Hundreds() {
      digits = new long[LENGTH];
    }

    void become(long number) {
      long rest = number;
      for (int i = 0; i < LENGTH; i++) {
        digits[i] = rest % 100;
        rest /= 100;
      }
    }

    /** By 100 to the eighth at most: what is carried stays below that too. */
    void multiply(long factor) {
      long carried = 0;
      for (int i = 0; i < LENGTH; i++) {
        long product = digits[i] * factor + carried;
        digits[i] = product % 100;
        carried = product / 100;
      }
    }

    void increase(Hundreds other) {
      long carried = 0;
      for (int i = 0; i < LENGTH; i++) {
        long all = digits[i] + other.digits[i] + carried;
        digits[i] = all % 100;
        carried = all / 100;
      }
    }

    /** How many millionths it is of a hundred multiplied by itself so often, cut. */
    int millionths(int times) {
      int told = 0;
      for (int i = times; i >= times - 3; i--) {
        told = told * 100 + (i >= 0 && i < LENGTH ? (int) digits[i] : 0);
      }
      return told;
    }
  }
}
