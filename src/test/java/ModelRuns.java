import java.math.BigInteger;
import java.util.ArrayList;
import java.util.Arrays;
import java.util.List;
import java.util.Random;

/** Random runs of calls, each answer held against a model that is written as plainly as the document. */
public final class ModelRuns {
  private static final int NONE = -1;

  /** A broken sum or test. */
  private static final class Broken extends Exception {
    private static final long serialVersionUID = 1L;
  }

  private record Token(String text, int place) {}

  private static final class Case {
    final int side;
    final int beasts;
    final int votes;

    Case(int side, int beasts, int votes) {
      this.side = side;
      this.beasts = beasts;
      this.votes = votes;
    }
  }

  /** What images keep. */
  private static final class State {
    List<int[]> beasts = new ArrayList<>();
    List<int[]> meals = new ArrayList<>();
    int bench = 0;
    int[] terms = {1, 0, 0, 0, 0, 50};
    List<String> laws = new ArrayList<>();
    int force = NONE;
    List<Case> cases = new ArrayList<>();

    State copy() {
      State s = new State();
      for (int[] b : beasts) s.beasts.add(b.clone());
      for (int[] m : meals) s.meals.add(m.clone());
      s.bench = bench;
      s.terms = terms.clone();
      s.laws.addAll(laws);
      s.force = force;
      s.cases.addAll(cases);
      return s;
    }
  }

  private static final class Model {
    State s = new State();
    State[] images = new State[2];
    StringBuilder tape = new StringBuilder();
    int fault = NONE;
    int quashed = 0;
    int status = 0;
    int[] refused = new int[7];
    boolean sat = false;
    int[] laySide = new int[8];
    int[] layMinute = new int[8];
    int lastMinute = 0;

    long no(int by) {
      status = by;
      refused[-by]++;
      return by;
    }

    long yes(long answer) {
      status = 0;
      return answer;
    }

    boolean there(int beast) {
      return beast >= 0 && beast < s.beasts.size();
    }

    static boolean in(int x, int low, int high) {
      return x >= low && x <= high;
    }

    static final int[] TRAITS = {9, 99, 9, 9, 9, 3};

    long beast(int... t) {
      for (int i = 0; i < 5; i++) if (!in(t[i], 0, TRAITS[i])) return no(-1);
      if (s.beasts.size() == 8) return no(-5);
      s.beasts.add(Arrays.copyOf(t, 6));
      return yes(s.beasts.size() - 1);
    }

    long put(int beast, int what, int value) {
      if (!in(what, 0, 5) || !in(value, 0, TRAITS[what])) return no(-1);
      if (!there(beast)) return no(-2);
      int was = s.beasts.get(beast)[what];
      s.beasts.get(beast)[what] = value;
      return yes(was);
    }

    long of(int beast, int what) {
      return there(beast) && in(what, 0, 5) ? s.beasts.get(beast)[what] : NONE;
    }

    long meal(int beast, int hour) {
      if (!in(hour, 0, 23)) return no(-1);
      if (!there(beast)) return no(-2);
      if (s.meals.size() == 24) return no(-5);
      s.meals.add(new int[] {beast, hour});
      return yes(s.meals.size());
    }

    long fast() {
      int were = s.meals.size();
      s.meals.clear();
      return were;
    }

    int hungerOf(int beast, int hour) {
      int latest = NONE;
      for (int[] m : s.meals) if (m[0] == beast && m[1] <= hour) latest = Math.max(latest, m[1]);
      int[] b = s.beasts.get(beast);
      return Math.min(99, latest == NONE ? b[1] + b[2] * hour : b[2] * (hour - latest));
    }

    long hunger(int beast, int hour) {
      return there(beast) && in(hour, 0, 23) ? hungerOf(beast, hour) : NONE;
    }

    long bench(int beasts) {
      if (!in(beasts, 0, (1 << s.beasts.size()) - 1)) return no(-1);
      int was = s.bench;
      s.bench = beasts;
      return yes(was);
    }

    long terms(int what, int value) {
      int[] low = {1, 0, 0, 0, 0, 0};
      int[] high = {8, 23, 1, 999, 999, 100};
      if (!in(what, 0, 5) || !in(value, low[what], high[what])) return no(-1);
      int was = s.terms[what];
      s.terms[what] = value;
      return yes(was);
    }

    long feed(int... five) {
      if (tape.length() + 20 > 400) return NONE;
      for (int x : five) {
        for (int shift = 24; shift >= 0; shift -= 8) tape.append((char) (x >>> shift & 255));
      }
      return tape.length();
    }

    long end(int n) {
      if (n < 0 || n > tape.length()) return NONE;
      tape.setLength(n);
      return n;
    }

    long row() {
      if (tape.length() == 0) return no(-6);
      int came = 0;
      quashed = 0;
      String all = tape.toString();
      tape.setLength(0);
      while (!all.isEmpty()) {
        if (all.length() < 3) {
          quashed++;
          break;
        }
        int side = all.charAt(0);
        int beasts = all.charAt(1);
        int votes = all.charAt(2);
        if (side <= 1 && (votes | beasts) == beasts && s.cases.size() < 20) {
          s.cases.add(new Case(side, beasts, votes));
          came++;
        } else {
          quashed++;
        }
        all = all.substring(3);
      }
      return yes(came);
    }

    long law() {
      String text = tape.toString();
      tape.setLength(0);
      if (s.laws.size() == 6) return no(-5);
      fault = faultOf(text);
      if (fault != NONE) return no(-6);
      s.laws.add(text);
      return yes(s.laws.size() - 1);
    }

    long force(int law) {
      if (!in(law, NONE, s.laws.size() - 1)) return no(-2);
      int was = s.force;
      s.force = law;
      return yes(was);
    }

    // The language.

    static List<Token> tokens(String text) {
      List<Token> list = new ArrayList<>();
      for (int i = 0; i < text.length(); ) {
        int from = i;
        if (text.charAt(i) == ' ') {
          i++;
          continue;
        }
        String set = "abcdefghijklmnopqrstuvwxyz";
        if ("0123456789".indexOf(text.charAt(i)) >= 0) set = "0123456789";
        if (set.indexOf(text.charAt(i)) < 0) {
          i++;
        } else {
          while (i < text.length() && set.indexOf(text.charAt(i)) >= 0) i++;
        }
        list.add(new Token(text.substring(from, i), from));
      }
      return list;
    }

    static final List<String> HEADS = List.of("votes", "lies", "price");
    static final List<String> WORDS =
        Arrays.asList("beast", "kind", "hunger", "salt", "mild", "favour", "hour", "rain", "side", "minute");

    static boolean isDigits(String t) {
      return t.charAt(0) >= '0' && t.charAt(0) <= '9';
    }

    static boolean isPart(String t) {
      return WORDS.contains(t) || isDigits(t) && new BigInteger(t).compareTo(BigInteger.valueOf(1000)) <= 0;
    }

    /** A machine with a stack of what is open: C a clause's sum, T a test, l and r sides of a comparison. */
    static int faultOf(String text) {
      String mode = "HEAD";
      String open = "";
      int clauses = 0;
      int parts = 0;
      for (Token token : tokens(text)) {
        String t = token.text();
        int place = token.place();
        int brackets = open.replaceAll("[^\\[(]", "").length();
        char top = open.isEmpty() ? ' ' : open.charAt(open.length() - 1);
        String below = open.isEmpty() ? "" : open.substring(0, open.length() - 1);
        if (mode.equals("HEAD")) {
          clauses++;
          if (clauses > 12 || !HEADS.contains(t)) return place;
          open = "C";
          mode = "OPERAND";
        } else if (mode.equals("OPERAND") || mode.equals("PLAIN")) {
          if (mode.equals("PLAIN") && t.equals("not")) continue;
          if (mode.equals("PLAIN") && t.equals("(")) {
            if (brackets == 8) return place;
            open += "(";
            continue;
          }
          if (mode.equals("PLAIN")) open += "l";
          if (t.equals("[")) {
            if (brackets == 8) return place;
            open += "[";
            mode = "OPERAND";
          } else {
            if (!isPart(t) || ++parts > 50) return place;
            mode = "AFTER";
          }
        } else {
          if (mode.equals("AFTER")) {
            if ("+-*/".contains(t)) {
              mode = "OPERAND";
              continue;
            }
            if (top == '[') {
              if (!t.equals("]")) return place;
              open = below;
              continue;
            }
            if (top == 'l') {
              if (!"<>=".contains(t)) return place;
              open = below + "r";
              mode = "OPERAND";
              continue;
            }
            if (top == 'C' && t.equals("if")) {
              open = "T";
              mode = "PLAIN";
              continue;
            }
            if (top == 'r') {
              open = below;
              mode = "DONE";
            }
          }
          if (t.equals(";") && (open.equals("C") || open.equals("T"))) {
            mode = "HEAD";
          } else if (mode.equals("DONE") && (t.equals("and") || t.equals("or"))) {
            mode = "PLAIN";
          } else if (mode.equals("DONE") && t.equals(")") && open.endsWith("(")) {
            open = open.substring(0, open.length() - 1);
          } else {
            return place;
          }
        }
      }
      boolean whole = mode.equals("AFTER") && (open.equals("C") || open.equals("Tr"))
          || mode.equals("DONE") && open.equals("T");
      return whole ? NONE : text.length();
    }

    /** The places of signs or words of a set that stand outside all brackets. */
    static List<Integer> places(List<String> t, String... set) {
      List<Integer> found = new ArrayList<>();
      int depth = 0;
      for (int i = 0; i < t.size(); i++) {
        if (t.get(i).equals("(") || t.get(i).equals("[")) depth++;
        if (t.get(i).equals(")") || t.get(i).equals("]")) depth--;
        if (depth == 0 && Arrays.asList(set).contains(t.get(i))) found.add(i);
      }
      return found;
    }

    static List<List<String>> split(List<String> t, List<Integer> at) {
      List<List<String>> pieces = new ArrayList<>();
      int from = 0;
      for (int i : at) {
        pieces.add(t.subList(from, i));
        from = i + 1;
      }
      pieces.add(t.subList(from, t.size()));
      return pieces;
    }

    static boolean test(List<String> t, int[] words) throws Broken {
      for (List<String> both : split(t, places(t, "or"))) {
        boolean all = true;
        for (List<String> plain : split(both, places(both, "and"))) {
          all = plain(plain, words);
          if (!all) break;
        }
        if (all) return true;
      }
      return false;
    }

    static boolean plain(List<String> t, int[] words) throws Broken {
      if (t.get(0).equals("not")) return !plain(t.subList(1, t.size()), words);
      if (t.get(0).equals("(")) return test(t.subList(1, t.size() - 1), words);
      int at = places(t, "<", ">", "=").get(0);
      int order = sum(t.subList(0, at), words).compareTo(sum(t.subList(at + 1, t.size()), words));
      return t.get(at).equals("<") ? order < 0 : t.get(at).equals(">") ? order > 0 : order == 0;
    }

    static BigInteger fit(BigInteger x) throws Broken {
      if (x.abs().compareTo(BigInteger.valueOf(1_000_000_000)) > 0) throw new Broken();
      return x;
    }

    static BigInteger sum(List<String> t, int[] words) throws Broken {
      List<Integer> at = places(t, "+", "-");
      if (at.isEmpty()) return term(t, words);
      int last = at.get(at.size() - 1);
      BigInteger left = sum(t.subList(0, last), words);
      BigInteger right = term(t.subList(last + 1, t.size()), words);
      return fit(t.get(last).equals("+") ? left.add(right) : left.subtract(right));
    }

    static BigInteger term(List<String> t, int[] words) throws Broken {
      List<Integer> at = places(t, "*", "/");
      if (at.isEmpty()) return part(t, words);
      int last = at.get(at.size() - 1);
      BigInteger left = term(t.subList(0, last), words);
      BigInteger right = part(t.subList(last + 1, t.size()), words);
      if (t.get(last).equals("*")) return fit(left.multiply(right));
      if (right.signum() == 0) throw new Broken();
      return fit(left.divide(right));
    }

    static BigInteger part(List<String> t, int[] words) throws Broken {
      if (t.get(0).equals("[")) return sum(t.subList(1, t.size() - 1), words);
      if (isDigits(t.get(0))) return new BigInteger(t.get(0));
      return BigInteger.valueOf(words[WORDS.indexOf(t.get(0))]);
    }

    int ask(String head, int without, int most, int beast, int hour, int favours, int side, int minute) {
      if (s.force == NONE) return without;
      int[] b = s.beasts.get(beast);
      int[] words = {beast, b[0], hungerOf(beast, hour), b[3], b[4], favours, hour, s.terms[2], side, minute};
      int told = without;
      List<String> all = new ArrayList<>();
      for (Token token : tokens(s.laws.get(s.force))) all.add(token.text());
      for (List<String> clause : split(all, places(all, ";"))) {
        if (!clause.get(0).equals(head)) continue;
        List<List<String>> halves = split(clause.subList(1, clause.size()),
            places(clause.subList(1, clause.size()), "if"));
        try {
          BigInteger sum = sum(halves.get(0), words);
          if (halves.size() == 1 || test(halves.get(1), words)) {
            told = Math.max(0, Math.min(most, sum.intValueExact()));
          }
        } catch (Broken broken) {
          continue;
        }
      }
      return told;
    }

    int favours(int beast) {
      return s.beasts.get(beast)[5];
    }

    int chanceOf(int beast, int hour, int favours, int minute) {
      return ask("votes", 50, 100, beast, hour, favours, -1, minute);
    }

    int priceOf(int beast, int side) {
      return ask("price", 10, 999, beast, s.terms[1], favours(beast), side, 0);
    }

    long chance(int beast, int hour, int favours) {
      return there(beast) && in(hour, 0, 23) && in(favours, 0, 3) ? chanceOf(beast, hour, favours, 0) : NONE;
    }

    long price(int beast, int side) {
      return there(beast) && in(side, 0, 1) ? priceOf(beast, side) : NONE;
    }

    // The odds, by going through every way to vote.

    static long[] byVotes(List<Integer> chances) {
      long[] just = new long[10];
      for (int way = 0; way < 1 << chances.size(); way++) {
        long odds = 1;
        for (int i = 0; i < chances.size(); i++) {
          odds *= (way >> i & 1) == 1 ? chances.get(i) : 100 - chances.get(i);
        }
        just[Integer.bitCount(way)] += odds;
      }
      return just;
    }

    static long from(long[] just, int quota) {
      long all = 0;
      for (int k = quota; k < just.length; k++) all += just[k];
      return all;
    }

    List<Integer> chances(int bench, int hour, int zero, int one) {
      List<Integer> list = new ArrayList<>();
      for (int b = 0; b < s.beasts.size(); b++) {
        if ((bench >> b & 1) == 0) continue;
        int with = favours(b);
        if ((zero >> b & 1) == 1) with |= 1;
        if ((one >> b & 1) == 1) with |= 2;
        list.add(chanceOf(b, hour, with, 0));
      }
      return list;
    }

    long odds(int votes) {
      if (!in(votes, NONE, 8)) return NONE;
      long[] just = byVotes(chances(s.bench, s.terms[1], 0, 0));
      return votes == NONE ? from(just, s.terms[0]) : just[votes];
    }

    long tips(int beast) {
      if (!there(beast) || (s.bench >> beast & 1) == 0) return NONE;
      return byVotes(chances(s.bench & ~(1 << beast), s.terms[1], 0, 0))[s.terms[0] - 1];
    }

    // Bribes.

    int cost(int side, int bits) {
      int all = 0;
      for (int b = 0; b < 8; b++) if ((bits >> b & 1) == 1) all += priceOf(b, side);
      return all;
    }

    boolean can(int side, int bits) {
      return (bits & ~s.bench) == 0 && cost(side, bits) <= s.terms[3 + side];
    }

    List<Integer> all(int side) {
      List<Integer> list = new ArrayList<>();
      for (int bits = 0; bits < 256; bits++) if (can(side, bits)) list.add(bits);
      return list;
    }

    long with(int zero, int one) {
      return from(byVotes(chances(s.bench, s.terms[1], zero, one)), s.terms[0]);
    }

    long bribed(int zero, int one) {
      return can(0, zero) && can(1, one) ? with(zero, one) : NONE;
    }

    /** What SIDE 0's odds are to a side. */
    static long to(int side, long odds) {
      return side == 0 ? odds : -odds;
    }

    int cheaper(int side, int one, int other) {
      return cost(side, one) < cost(side, other) || cost(side, one) == cost(side, other) && one < other ? one : other;
    }

    long reply(int side, int other, int what) {
      if (!in(side, 0, 1) || !in(what, 0, 1) || !can(1 - side, other)) return NONE;
      int best = NONE;
      long most = 0;
      for (int bits : all(side)) {
        long worth = to(side, side == 0 ? with(bits, other) : with(other, bits));
        if (best == NONE || worth > most) {
          best = bits;
          most = worth;
        } else if (worth == most) {
          best = cheaper(side, best, bits);
        }
      }
      return what == 0 ? best : cost(side, best);
    }

    long[][] table;

    void fill(List<Integer> zeros, List<Integer> ones) {
      table = new long[256][256];
      int[][] chance = new int[8][4];
      List<Integer> seats = new ArrayList<>();
      for (int b = 0; b < 8; b++) {
        if ((s.bench >> b & 1) == 0) continue;
        seats.add(b);
        for (int f = 0; f < 4; f++) chance[b][f] = chanceOf(b, s.terms[1], f, 0);
      }
      for (int zero : zeros) {
        for (int one : ones) {
          List<Integer> list = new ArrayList<>();
          for (int b : seats) list.add(chance[b][favours(b) | zero >> b & 1 | (one >> b & 1) * 2]);
          table[zero][one] = from(byVotes(list), s.terms[0]);
        }
      }
    }

    long[] surest(int side) {
      List<Integer> zeros = all(0);
      List<Integer> ones = all(1);
      fill(zeros, ones);
      int best = NONE;
      long most = 0;
      for (int own : side == 0 ? zeros : ones) {
        long worst = Long.MAX_VALUE;
        for (int other : side == 0 ? ones : zeros) {
          worst = Math.min(worst, to(side, side == 0 ? table[own][other] : table[other][own]));
        }
        if (best == NONE || worst > most) {
          best = own;
          most = worst;
        } else if (worst == most) {
          best = cheaper(side, best, own);
        }
      }
      return new long[] {best, to(side, most)};
    }

    long sure(int side, int what) {
      if (!in(side, 0, 1) || !in(what, 0, 1)) return NONE;
      int best = (int) surest(side)[0];
      return what == 0 ? best : cost(side, best);
    }

    long value(int side) {
      return in(side, 0, 1) ? surest(side)[1] : NONE;
    }

    long saddle(int what) {
      if (!in(what, 0, 2)) return NONE;
      List<Integer> zeros = all(0);
      List<Integer> ones = all(1);
      fill(zeros, ones);
      List<int[]> saddles = new ArrayList<>();
      for (int zero : zeros) {
        for (int one : ones) {
          boolean is = true;
          for (int z : zeros) is &= table[z][one] <= table[zero][one];
          for (int o : ones) is &= table[zero][o] >= table[zero][one];
          if (is) saddles.add(new int[] {zero, one});
        }
      }
      return what == 2 ? saddles.size() : saddles.isEmpty() ? NONE : saddles.get(0)[what];
    }

    static BigInteger hundred(int times) {
      return BigInteger.valueOf(100).pow(times);
    }

    long enough(int side, int millionths, int what) {
      if (!in(side, 0, 1) || !in(millionths, 0, 1_000_000) || !in(what, 0, 1)) return NONE;
      int best = NONE;
      BigInteger whole = hundred(Integer.bitCount(s.bench));
      for (int bits : all(side)) {
        BigInteger own = BigInteger.valueOf(side == 0 ? with(bits, 0) : with(0, bits));
        if (side == 1) own = whole.subtract(own);
        boolean is = own.multiply(BigInteger.valueOf(1_000_000))
            .compareTo(whole.multiply(BigInteger.valueOf(millionths))) >= 0;
        if (is) best = best == NONE ? bits : cheaper(side, best, bits);
      }
      return best == NONE ? NONE : what == 0 ? best : cost(side, best);
    }

    long bribe(int side, int beasts) {
      if (!in(side, 0, 1) || (beasts & ~s.bench) != 0) return no(-1);
      int cost = cost(side, beasts);
      if (cost > s.terms[3 + side]) return no(-3);
      s.terms[3 + side] -= cost;
      for (int b = 0; b < 8; b++) if ((beasts >> b & 1) == 1) s.beasts.get(b)[5] |= side == 0 ? 1 : 2;
      return yes(cost);
    }

    long[] steadiest(int m) {
      long[] found = {NONE, 0, Long.MAX_VALUE};
      for (int bench = 0; bench < 1 << s.beasts.size(); bench++) {
        if (Integer.bitCount(bench) != m) continue;
        long high = Long.MIN_VALUE;
        long low = Long.MAX_VALUE;
        for (int bits = 0; bits < 256; bits++) {
          if ((bits & ~bench) != 0) continue;
          if (cost(0, bits) <= s.terms[3]) {
            high = Math.max(high, from(byVotes(chances(bench, s.terms[1], bits, 0)), m / 2 + 1));
          }
          if (cost(1, bits) <= s.terms[4]) {
            low = Math.min(low, from(byVotes(chances(bench, s.terms[1], 0, bits)), m / 2 + 1));
          }
        }
        if (high - low < found[2]) found = new long[] {bench, 0, high - low};
        if (high - low == found[2]) found[1]++;
      }
      return found;
    }

    long steady(int m, int what) {
      return in(m, 1, s.beasts.size()) && in(what, 0, 1) ? steadiest(m)[what] : NONE;
    }

    long swing(int m) {
      return in(m, 1, s.beasts.size()) ? steadiest(m)[2] : NONE;
    }

    long fairest() {
      int best = 0;
      BigInteger near = null;
      for (int hour = 0; hour < 24; hour++) {
        long odds = from(byVotes(chances(s.bench, hour, 0, 0)), s.terms[0]);
        BigInteger off = BigInteger.valueOf(odds).shiftLeft(1).subtract(hundred(Integer.bitCount(s.bench))).abs();
        if (near == null || off.compareTo(near) < 0) {
          near = off;
          best = hour;
        }
      }
      return best;
    }

    // Cases.

    long judged(int side, int beasts, int votes) {
      if (!in(side, 0, 1) || !in(beasts, 0, 255) || (votes & ~beasts) != 0) return no(-1);
      if (s.cases.size() == 20) return no(-5);
      s.cases.add(new Case(side, beasts, votes));
      return yes(s.cases.size());
    }

    long annul(int judged) {
      if (!in(judged, 0, s.cases.size() - 1)) return no(-2);
      s.cases.remove(judged);
      return yes(s.cases.size());
    }

    static boolean judges(Case c, int beast) {
      return (c.beasts >> beast & 1) == 1;
    }

    static int voteOf(Case c, int beast) {
      return (c.votes >> beast & 1) == 1 ? 0 : 1;
    }

    static int rights(List<Case> cases, int beast) {
      int times = 0;
      for (Case c : cases) if (judges(c, beast) && voteOf(c, beast) == c.side) times++;
      return times;
    }

    static int wrongs(List<Case> cases, int beast) {
      int times = 0;
      for (Case c : cases) if (judges(c, beast) && voteOf(c, beast) != c.side) times++;
      return times;
    }

    long right(int beast, int what) {
      if (beast == NONE && what == 0) {
        int times = 0;
        for (Case c : s.cases) {
          int of = 0;
          int good = 0;
          for (int b = 0; b < 8; b++) {
            if (!judges(c, b)) continue;
            of++;
            if (voteOf(c, b) == c.side) good++;
          }
          if (good > of - good) times++;
        }
        return times;
      }
      if (!in(beast, 0, 7) || !in(what, 0, 1)) return NONE;
      return what == 0 ? rights(s.cases, beast) : wrongs(s.cases, beast);
    }

    long agree(int one, int other, int what) {
      if (!in(one, 0, 7) || !in(other, 0, 7) || !in(what, 0, 1)) return NONE;
      int times = 0;
      for (Case c : s.cases) {
        if (judges(c, one) && judges(c, other) && (what == 0 || voteOf(c, one) == voteOf(c, other))) times++;
      }
      return times;
    }

    /** By fractions, as the document tells it. */
    long proofBy(List<Case> cases, int beasts, int votes, int what) {
      BigInteger up0 = BigInteger.valueOf(s.terms[5]);
      BigInteger up1 = BigInteger.valueOf(100 - s.terms[5]);
      for (int b = 0; b < 8; b++) {
        if ((beasts >> b & 1) == 0) continue;
        BigInteger good = BigInteger.valueOf(rights(cases, b) + 1);
        BigInteger bad = BigInteger.valueOf(rights(cases, b) + wrongs(cases, b) + 2).subtract(good);
        boolean zero = (votes >> b & 1) == 1;
        up0 = up0.multiply(zero ? good : bad);
        up1 = up1.multiply(zero ? bad : good);
      }
      BigInteger low = up0.add(up1);
      BigInteger shared = up0.gcd(low);
      return (what == 0 ? up0 : low).divide(shared).longValueExact();
    }

    long again(int judged, int what) {
      if (!in(judged, 0, s.cases.size() - 1) || !in(what, 0, 1)) return NONE;
      List<Case> others = new ArrayList<>(s.cases);
      Case c = others.remove(judged);
      return proofBy(others, c.beasts, c.votes, what);
    }

    long proof(int beasts, int votes, int what) {
      if (!in(beasts, 0, 255) || (votes & ~beasts) != 0 || !in(what, 0, 1)) return NONE;
      return proofBy(s.cases, beasts, votes, what);
    }

    long trusted(int i) {
      List<Integer> order = new ArrayList<>();
      for (int b = 0; b < s.beasts.size(); b++) order.add(b);
      order.sort((x, y) -> {
        int rx = rights(s.cases, x) + 1;
        int ry = rights(s.cases, y) + 1;
        int nx = rx + wrongs(s.cases, x) + 1;
        int ny = ry + wrongs(s.cases, y) + 1;
        return Integer.compare(ry * nx, rx * ny);
      });
      return in(i, 0, order.size() - 1) ? order.get(i) : NONE;
    }

    long appeal(int sittings) {
      if (sittings != 1 && sittings != 3 && sittings != 5) return NONE;
      BigInteger whole = hundred(Integer.bitCount(s.bench));
      BigInteger won = BigInteger.valueOf(odds(NONE));
      BigInteger lost = whole.subtract(won);
      BigInteger all = BigInteger.ZERO;
      for (int way = 0; way < 1 << sittings; way++) {
        int wins = Integer.bitCount(way);
        if (2 * wins > sittings) all = all.add(won.pow(wins).multiply(lost.pow(sittings - wins)));
      }
      return all.multiply(BigInteger.valueOf(1_000_000)).divide(whole.pow(sittings)).intValueExact();
    }

    // Sittings.

    long s0;

    int draw(int n) {
      s0 = (s0 * 1103 + 12345) % 1_000_003;
      return (int) (s0 % n);
    }

    long sitting(int seed) {
      if (!in(seed, 0, 1_000_000)) return no(-1);
      sat = true;
      s0 = seed;
      Arrays.fill(laySide, NONE);
      Arrays.fill(layMinute, NONE);
      int zero = 0;
      int one = 0;
      for (int minute = 0; minute < 60; minute++) {
        lastMinute = minute;
        for (int b = 0; b < s.beasts.size(); b++) {
          if ((s.bench >> b & 1) == 0 || laySide[b] != NONE) continue;
          if (draw(100) < ask("lies", 10, 100, b, s.terms[1], favours(b), -1, minute)) {
            layMinute[b] = minute;
            if (draw(100) < chanceOf(b, s.terms[1], favours(b), minute)) {
              laySide[b] = 0;
              zero++;
            } else {
              laySide[b] = 1;
              one++;
            }
          }
        }
        if (zero >= s.terms[0]) return yes(0);
        if (one > Integer.bitCount(s.bench) - s.terms[0]) return yes(1);
      }
      return yes(2);
    }

    long lay(int beast, int what) {
      if (!sat || !in(what, 0, 1) || !in(beast, NONE, 7)) return NONE;
      return beast == NONE ? lastMinute : what == 0 ? laySide[beast] : layMinute[beast];
    }

    long image(int k) {
      if (!in(k, 0, 1)) return no(-1);
      images[k] = s.copy();
      return yes(0);
    }

    long back(int k) {
      if (!in(k, 0, 1)) return no(-1);
      if (images[k] == null) return no(-2);
      s = images[k].copy();
      return yes(0);
    }

    long count(int what) {
      int[] told = {s.beasts.size(), s.meals.size(), s.laws.size(), s.cases.size(), Integer.bitCount(s.bench),
        tape.length(), refused[1], refused[2], refused[3], refused[5], refused[6], s.force, s.terms[0],
        s.terms[1], s.terms[2], s.terms[3], s.terms[4], s.terms[5]};
      return in(what, 0, 17) ? told[what] : NONE;
    }
  }

  // The runs.

  private static final String[] CALLS = {"beast", "put", "of", "meal", "fast", "hunger", "bench", "terms", "feed",
    "end", "row", "quashed", "law", "fault", "force", "chance", "price", "odds", "tips", "bribed", "reply", "sure",
    "value", "saddle", "enough", "bribe", "steady", "swing", "fairest", "judged", "annul", "right", "agree", "again",
    "trusted", "proof", "appeal", "sitting", "lay", "image", "back", "count", "status"};
  private static final int[] ARGUMENTS = {5, 3, 2, 2, 0, 2, 1, 2, 5, 1, 0, 0, 0, 0, 1, 3, 2, 1, 1, 2, 3, 2, 1, 1, 3,
    2, 2, 1, 0, 3, 1, 2, 3, 2, 1, 3, 1, 1, 2, 1, 1, 1, 0};

  private static long callClass(YardCourt x, int call, int[] a) {
    switch (CALLS[call]) {
      case "beast": return x.beast(a[0], a[1], a[2], a[3], a[4]);
      case "put": return x.put(a[0], a[1], a[2]);
      case "of": return x.of(a[0], a[1]);
      case "meal": return x.meal(a[0], a[1]);
      case "fast": return x.fast();
      case "hunger": return x.hunger(a[0], a[1]);
      case "bench": return x.bench(a[0]);
      case "terms": return x.terms(a[0], a[1]);
      case "feed": return x.feed(a[0], a[1], a[2], a[3], a[4]);
      case "end": return x.end(a[0]);
      case "row": return x.row();
      case "quashed": return x.quashed();
      case "law": return x.law();
      case "fault": return x.fault();
      case "force": return x.force(a[0]);
      case "chance": return x.chance(a[0], a[1], a[2]);
      case "price": return x.price(a[0], a[1]);
      case "odds": return x.odds(a[0]);
      case "tips": return x.tips(a[0]);
      case "bribed": return x.bribed(a[0], a[1]);
      case "reply": return x.reply(a[0], a[1], a[2]);
      case "sure": return x.sure(a[0], a[1]);
      case "value": return x.value(a[0]);
      case "saddle": return x.saddle(a[0]);
      case "enough": return x.enough(a[0], a[1], a[2]);
      case "bribe": return x.bribe(a[0], a[1]);
      case "steady": return x.steady(a[0], a[1]);
      case "swing": return x.swing(a[0]);
      case "fairest": return x.fairest();
      case "judged": return x.judged(a[0], a[1], a[2]);
      case "annul": return x.annul(a[0]);
      case "right": return x.right(a[0], a[1]);
      case "agree": return x.agree(a[0], a[1], a[2]);
      case "again": return x.again(a[0], a[1]);
      case "trusted": return x.trusted(a[0]);
      case "proof": return x.proof(a[0], a[1], a[2]);
      case "appeal": return x.appeal(a[0]);
      case "sitting": return x.sitting(a[0]);
      case "lay": return x.lay(a[0], a[1]);
      case "image": return x.image(a[0]);
      case "back": return x.back(a[0]);
      case "count": return x.count(a[0]);
      default: return x.status();
    }
  }

  private static long callModel(Model x, int call, int[] a) {
    switch (CALLS[call]) {
      case "beast": return x.beast(a);
      case "put": return x.put(a[0], a[1], a[2]);
      case "of": return x.of(a[0], a[1]);
      case "meal": return x.meal(a[0], a[1]);
      case "fast": return x.fast();
      case "hunger": return x.hunger(a[0], a[1]);
      case "bench": return x.bench(a[0]);
      case "terms": return x.terms(a[0], a[1]);
      case "feed": return x.feed(a);
      case "end": return x.end(a[0]);
      case "row": return x.row();
      case "quashed": return x.quashed;
      case "law": return x.law();
      case "fault": return x.fault;
      case "force": return x.force(a[0]);
      case "chance": return x.chance(a[0], a[1], a[2]);
      case "price": return x.price(a[0], a[1]);
      case "odds": return x.odds(a[0]);
      case "tips": return x.tips(a[0]);
      case "bribed": return x.bribed(a[0], a[1]);
      case "reply": return x.reply(a[0], a[1], a[2]);
      case "sure": return x.sure(a[0], a[1]);
      case "value": return x.value(a[0]);
      case "saddle": return x.saddle(a[0]);
      case "enough": return x.enough(a[0], a[1], a[2]);
      case "bribe": return x.bribe(a[0], a[1]);
      case "steady": return x.steady(a[0], a[1]);
      case "swing": return x.swing(a[0]);
      case "fairest": return x.fairest();
      case "judged": return x.judged(a[0], a[1], a[2]);
      case "annul": return x.annul(a[0]);
      case "right": return x.right(a[0], a[1]);
      case "agree": return x.agree(a[0], a[1], a[2]);
      case "again": return x.again(a[0], a[1]);
      case "trusted": return x.trusted(a[0]);
      case "proof": return x.proof(a[0], a[1], a[2]);
      case "appeal": return x.appeal(a[0]);
      case "sitting": return x.sitting(a[0]);
      case "lay": return x.lay(a[0], a[1]);
      case "image": return x.image(a[0]);
      case "back": return x.back(a[0]);
      case "count": return x.count(a[0]);
      default: return x.status;
    }
  }

  private static int wrong = 0;
  private static int made = 0;
  private static final int[] SEEN = new int[CALLS.length];
  private static final int[] NONES = new int[CALLS.length];
  private static int lawsMade = 0;

  private final Random random;
  private final YardCourt court = new YardCourt();
  private final Model model = new Model();
  private final List<String> told = new ArrayList<>();
  private final int mostBeasts;
  private boolean failed = false;

  private ModelRuns(long seed) {
    random = new Random(seed);
    mostBeasts = random.nextInt(12) == 0 ? 8 : 2 + random.nextInt(4);
  }

  private long call(String name, int... a) {
    int call = Arrays.asList(CALLS).indexOf(name);
    long due = callModel(model, call, a.clone());
    long got = callClass(court, call, a);
    told.add(name + Arrays.toString(a) + " answered " + got + ", due is " + due);
    made++;
    SEEN[call]++;
    if (due == NONE) NONES[call]++;
    if (got != due && !failed) {
      failed = true;
      wrong++;
      for (String line : told) System.out.println(line);
    }
    return due;
  }

  private void feedText(String text) {
    StringBuilder padded = new StringBuilder(text);
    while (padded.length() % 20 != 0) padded.append((char) random.nextInt(256));
    int before = model.tape.length();
    for (int i = 0; i < padded.length(); i += 20) {
      int[] five = new int[5];
      for (int k = 0; k < 20; k++) five[k / 4] = five[k / 4] << 8 | padded.charAt(i + k);
      call("feed", five);
    }
    call("end", before + text.length());
  }

  private int upTo(int n) {
    return random.nextInt(n + 1);
  }

  private <T> T any(List<T> list) {
    return list.get(random.nextInt(list.size()));
  }

  private String part(int depth) {
    if (depth > 0 && random.nextInt(5) == 0) return "[" + gap() + sum(depth - 1) + gap() + "]";
    if (random.nextInt(2) == 0) return any(Model.WORDS);
    int most = any(List.of(3, 10, 100, 1000));
    return (random.nextInt(20) == 0 ? "000" : "") + upTo(most);
  }

  private String gap() {
    return random.nextInt(3) == 0 ? " ".repeat(1 + upTo(1)) : "";
  }

  private String sum(int depth) {
    StringBuilder text = new StringBuilder(part(depth));
    while (random.nextInt(3) == 0) text.append(gap()).append(any(List.of("+", "-", "*", "/", "*"))).append(gap()).append(part(depth));
    return text.toString();
  }

  private String test(int depth) {
    StringBuilder text = new StringBuilder(plain(depth));
    while (random.nextInt(3) == 0) {
      text.append(" ").append(any(List.of("or", "and"))).append(" ").append(plain(depth));
    }
    return text.toString();
  }

  private String plain(int depth) {
    if (random.nextInt(6) == 0) return "not " + plain(depth);
    if (depth > 0 && random.nextInt(4) == 0) return "(" + test(depth - 1) + gap() + ")";
    return sum(depth) + gap() + any(List.of("<", ">", "=")) + gap() + sum(depth);
  }

  private String clause() {
    String head = any(Model.HEADS);
    String text = head + " " + sum(2);
    if (random.nextInt(3) == 0) text = head + " " + upTo(head.equals("price") ? 30 : 100);
    if (random.nextInt(4) == 0) text = head + " " + any(List.of("favour*30", "hunger", "kind*10+salt", "100-hunger/2",
        "50+favour*20-[favour/2]*60", "beast*7", "side*5+3", "minute*3", "hour*4", "90-30*favour+rain"));
    return random.nextInt(2) == 0 ? text : text + " if " + test(2);
  }

  private String text() {
    StringBuilder text = new StringBuilder(clause());
    int more = random.nextInt(12) == 0 ? 9 + upTo(4) : upTo(5);
    for (int k = 0; k < more; k++) text.append(gap()).append(";").append(gap()).append(more > 8 ? "lies 1" : clause());
    if (random.nextInt(25) == 0) {
      text = new StringBuilder("votes 1");
      for (int k = 0; k < 47 + upTo(4); k++) text.append("+").append(upTo(9));
    }
    if (random.nextInt(25) == 0) {
      int deep = 7 + upTo(2);
      int square = upTo(deep);
      text = new StringBuilder("price 1 if ");
      text.append("(".repeat(deep - square)).append("[".repeat(square)).append("7").append("]".repeat(square));
      text.append("=7").append(")".repeat(deep - square));
    }
    if (random.nextInt(25) == 0) text = new StringBuilder("lies 3 if ").append("not ".repeat(90)).append("rain=0");
    if (text.length() > 380) text.setLength(380);
    if (random.nextInt(4) == 0) spoil(text);
    return text.toString();
  }

  private void spoil(StringBuilder text) {
    int at = random.nextInt(text.length());
    switch (random.nextInt(5)) {
      case 0: text.deleteCharAt(at); break;
      case 1: text.insert(at, any(List.of(" ", "(", ")", "[", "]", ";", "not ", " if ", " and ", "<", "1", "a", "A")));
        break;
      case 2: text.setCharAt(at, (char) random.nextInt(256)); break;
      case 3: text.setLength(at); break;
      default: text.replace(0, text.length(), " ".repeat(upTo(5)));
    }
  }

  private int near(int low, int high) {
    int odd = random.nextInt(40);
    if (odd == 0) return low - 1;
    if (odd == 1) return high + 1;
    if (odd == 2) return any(List.of(Integer.MIN_VALUE, Integer.MAX_VALUE, -2, 32, 256, -256));
    return low + random.nextInt(Math.max(1, high - low + 1));
  }

  private int someBeast() {
    return near(0, Math.max(0, model.s.beasts.size() - 1));
  }

  private int someBits(int of) {
    return random.nextInt(20) == 0 ? near(0, 255) : of & random.nextInt(256);
  }

  private void step() {
    switch (random.nextInt(46)) {
      case 0: if (model.s.beasts.size() < mostBeasts || mostBeasts == 8) {
          call("beast", near(0, 9), near(0, 99), near(0, 9), near(0, 9), near(0, 9));
        } break;
      case 1: int what = near(0, 5);
        call("put", someBeast(), what, near(0, what >= 0 && what < 6 ? Model.TRAITS[what] : 3)); break;
      case 2: call("of", someBeast(), near(0, 5)); break;
      case 3: call("meal", someBeast(), near(0, 23)); break;
      case 4: if (random.nextInt(5) == 0) call("fast"); break;
      case 5: call("hunger", someBeast(), near(0, 23)); break;
      case 6: call("bench", random.nextInt(3) == 0 ? near(0, 255) : (1 << model.s.beasts.size()) - 1 & someBits(255));
        break;
      case 7: case 43: int term = near(0, 5);
        int[] high = {3, 23, 1, 80, 80, 100};
        call("terms", term, near(term == 0 ? 1 : 0, any(List.of(term >= 0 && term < 6 ? high[term] : 8, term == 0 ? 8 : 999))));
        break;
      case 8: feedText(text());
        if (call("law") >= 0) {
          lawsMade++;
          if (random.nextInt(3) > 0) call("force", model.s.laws.size() - 1);
        } break;
      case 9: call("end", near(0, model.tape.length())); break;
      case 10: cases(); break;
      case 11: call("quashed"); break;
      case 12: call("fault"); break;
      case 13: call("force", near(NONE, model.s.laws.size() - 1)); break;
      case 14: call("chance", someBeast(), near(0, 23), near(0, 3)); break;
      case 15: call("price", someBeast(), near(0, 1)); break;
      case 16: call("odds", near(NONE, 8)); break;
      case 17: call("tips", someBeast()); break;
      case 18: call("bribed", someBits(model.s.bench), someBits(model.s.bench)); break;
      case 19: call("reply", near(0, 1), someBits(model.s.bench), near(0, 1)); break;
      case 20: call("sure", near(0, 1), near(0, 1)); break;
      case 21: call("value", near(0, 1)); break;
      case 22: call("saddle", near(0, 2)); break;
      case 23: int millionths = any(List.of(near(0, 1_000_000), near(0, 100) * 10_000, 500_000));
        call("enough", near(0, 1), millionths, near(0, 1)); break;
      case 24: call("bribe", near(0, 1), someBits(model.s.bench)); break;
      case 25: if (model.s.beasts.size() < 7 || random.nextInt(4) == 0) call("steady", near(1, model.s.beasts.size()), near(0, 1)); break;
      case 26: if (model.s.beasts.size() < 7 || random.nextInt(4) == 0) call("swing", near(1, model.s.beasts.size())); break;
      case 27: call("fairest"); break;
      case 28: case 44: int beasts = near(0, 255);
        call("judged", near(0, 1), beasts, someBits(beasts)); break;
      case 29: if (random.nextInt(3) == 0) call("annul", near(0, model.s.cases.size())); break;
      case 30: call("right", near(NONE, 7), near(0, 1)); break;
      case 31: call("agree", near(0, 7), near(0, 7), near(0, 1)); break;
      case 32: call("again", near(0, model.s.cases.size() - 1), near(0, 1)); break;
      case 33: call("trusted", near(0, model.s.beasts.size())); break;
      case 34: int those = near(0, 255);
        call("proof", those, someBits(those), near(0, 1)); break;
      case 35: call("appeal", any(List.of(1, 3, 5, 3, 5, near(0, 6)))); break;
      case 36: call("sitting", near(0, 1_000_000)); break;
      case 37: case 45: call("lay", near(NONE, 7), near(0, 1)); break;
      case 38: if (random.nextInt(2) == 0) call("image", near(0, 1)); break;
      case 39: if (random.nextInt(3) == 0) call("back", near(0, 1)); break;
      case 40: call("count", near(0, 17)); break;
      case 41: call("status"); break;
      default: if (random.nextInt(4) == 0) {
          call("feed", random.nextInt(), random.nextInt(), random.nextInt(), random.nextInt(), random.nextInt());
        }
    }
  }

  private void cases() {
    StringBuilder bytes = new StringBuilder();
    int many = upTo(6);
    for (int k = 0; k < many; k++) {
      int beasts = random.nextInt(256);
      bytes.append((char) (random.nextInt(8) == 0 ? 2 + upTo(200) : upTo(1))).append((char) beasts);
      bytes.append((char) (beasts & random.nextInt(256) | (random.nextInt(8) == 0 ? random.nextInt(256) : 0)));
    }
    if (random.nextInt(3) == 0) bytes.append((char) upTo(255));
    feedText(bytes.toString());
    call("row");
  }

  private void run() {
    int beasts = upTo(mostBeasts);
    for (int k = 0; k < beasts; k++) call("beast", upTo(9), upTo(99), upTo(9), upTo(9), upTo(9));
    if (random.nextInt(2) == 0) call("bench", (1 << beasts) - 1);
    int size = mostBeasts == 8 ? 60 : 200;
    while (told.size() < size && !failed) step();
    for (int k = 0; k < 18 && !failed; k++) call("count", k);
  }

  public static void main(String[] args) {
    int runs = args.length > 1 ? Integer.parseInt(args[1]) : 1500;
    int first = args.length > 2 ? Integer.parseInt(args[2]) : 0;
    for (int seed = first; seed < first + runs && wrong < 3; seed++) new ModelRuns(seed).run();
    for (int i = 0; i < CALLS.length; i++) {
      if (SEEN[i] < 100 || NONES[i] == SEEN[i]) {
        System.out.println(CALLS[i] + " is hardly tried: " + SEEN[i] + " calls, " + NONES[i] + " of them NONE");
        wrong++;
      }
    }
    System.out.println(made + " calls in " + runs + " runs, " + lawsMade + " laws, " + wrong + " faults");
    if (wrong != 0) System.exit(1);
  }
}
