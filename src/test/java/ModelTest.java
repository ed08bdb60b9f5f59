import java.util.ArrayList;
import java.util.Comparator;
import java.util.List;
import java.util.Random;
import java.util.regex.Matcher;
import java.util.regex.Pattern;

// Runs of drawn calls, each answer against a second, plain reading of the document
// that tries every row of ACTS, without any of the class's short cuts.
public final class ModelTest {
  private static final int NONE = -1, UNKNOWN = -101, OUTSIDE = -102, STATE = -103, FULL = -104;
  private static final int RUNS = 400;
  private static final int CALLS = 500;

  // ---- the model

  private record Credit(int week, int sort) { }

  private record Rule(int term, int worth, String sorts) { }

  private static final class One {
    int kind, got, owes;
    boolean acted, gone;
    List<Credit> credits = new ArrayList<>();

    One copy() {
      One o = new One();
      o.kind = kind;
      o.got = got;
      o.owes = owes;
      o.acted = acted;
      o.gone = gone;
      o.credits.addAll(credits);
      return o;
    }
  }

  private static final class Model {
    static final String SORTS = "(?:0|1|2|01|02|10|12|20|21|012|021|102|120|201|210)";
    static final String DEED = "[1-9][0-9]:" + SORTS;
    static final Pattern LAW = Pattern.compile(DEED + "(?:/" + DEED + "){3};[1-9]");

    String page = "";
    List<Rule> rules = new ArrayList<>();
    int lapse, week, laws, gains, walks;
    List<One> people = new ArrayList<>();
    List<One> imagePeople;
    int imageWeek;
    One bookOne;
    int bookWeek;
    List<Integer> book = new ArrayList<>();

    int letter(int code) {
      if (code < 32 || code > 126) return OUTSIDE;
      if (page.length() >= 30) return FULL;
      page += (char) code;
      return page.length();
    }

    int blank() {
      int had = page.length();
      page = "";
      return had;
    }

    int fault() {
      for (int n = 1; n <= page.length(); n++) {
        Matcher m = LAW.matcher(page.substring(0, n));
        if (!m.matches() && !m.hitEnd()) return n - 1;
      }
      return page.length();
    }

    int law() {
      if (!LAW.matcher(page).matches()) return STATE;
      rules.clear();
      int sum = 0;
      for (String d : page.substring(0, page.indexOf(';')).split("/")) {
        rules.add(new Rule(d.charAt(0) - '0', d.charAt(1) - '0', d.substring(3)));
        sum += d.charAt(0) - '0';
      }
      lapse = page.charAt(page.length() - 1) - '0';
      page = "";
      laws++;
      bookOne = null;
      book.clear();
      for (One o : people) forget(o, week);
      return sum;
    }

    void forget(One o, int when) {
      o.credits.removeIf(c -> c.week + lapse < when);
    }

    int deed(int deed, int what) {
      if (deed < 0 || deed > 3) return UNKNOWN;
      if (what < 0 || what > 2) return OUTSIDE;
      if (laws == 0) return STATE;
      Rule r = rules.get(deed);
      if (what == 0) return r.term;
      if (what == 1) return r.worth;
      int bits = 0;
      for (char c : r.sorts.toCharArray()) bits |= 1 << (c - '0');
      return bits;
    }

    int person(int kind) {
      if (kind < 0 || kind > 4) return OUTSIDE;
      if (laws == 0) return STATE;
      if (people.size() == 4) return FULL;
      One o = new One();
      o.kind = kind;
      people.add(o);
      return people.size() - 1;
    }

    boolean known(int p) {
      return p >= 0 && p < people.size();
    }

    boolean here(int p) {
      return known(p) && !people.get(p).gone;
    }

    int about(int p, int what) {
      if (!known(p)) return UNKNOWN;
      if (what < 0 || what > 9) return OUTSIDE;
      One o = people.get(p);
      return switch (what) {
        case 0 -> o.kind;
        case 1 -> o.got;
        case 2 -> o.owes;
        case 3 -> o.credits.size();
        case 4, 5, 6 -> (int) o.credits.stream().filter(c -> c.sort == what - 4).count();
        case 7 -> o.credits.stream().mapToInt(Credit::week).min().orElse(NONE);
        case 8 -> o.acted ? 1 : 0;
        default -> o.gone ? 1 : 0;
      };
    }

    int as(int p, int kind) {
      if (!known(p)) return UNKNOWN;
      if (kind < 0 || kind > 4) return OUTSIDE;
      int his = people.get(p).kind;
      return kind == 0 || his == kind || his == 4 && kind == 3 ? p : NONE;
    }

    static boolean isAct(int act) {
      return act >= 0 && act <= 2 || act >= 10 && act <= 13 || act >= 20 && act <= 23;
    }

    int needs(One o, int term) {
      return o.kind == 1 && term > 1 ? term - 1 : term;
    }

    /** The CREDITS that are gone by it, or null if he has too few. */
    List<Credit> cover(One o, int deed, int term, int when) {
      List<Credit> fit = new ArrayList<>();
      for (Credit c : o.credits)
        if (rules.get(deed).sorts.indexOf('0' + c.sort) >= 0 && c.week + lapse >= when) fit.add(c);
      if (o.owes > 0 || fit.size() < needs(o, term)) return null;
      fit.sort(Comparator.comparingInt(Credit::week).thenComparingInt(Credit::sort));
      return fit.subList(0, needs(o, term));
    }

    boolean mayDo(One o, int act, int when) {
      if (o.acted) return false;
      if (act < 3) return true;
      if (act < 20) return cover(o, act - 10, rules.get(act - 10).term, when) != null;
      return o.owes == 0;
    }

    void perform(One o, int act, int when) {
      if (act < 3) {
        if (o.owes > 0) o.owes--;
        else for (int i = 0; i < (o.kind == 2 ? 2 : 1); i++) if (o.credits.size() < 12) o.credits.add(new Credit(when, act));
      } else {
        Rule r = rules.get(act % 10);
        if (act < 20) for (Credit c : cover(o, act - 10, r.term, when)) o.credits.remove(c);
        else o.owes = o.kind == 4 ? r.term : 2 * r.term;
        o.got += r.worth + (o.kind >= 3 ? 1 : 0);
      }
      o.acted = true;
    }

    int may(int p, int act) {
      if (!here(p) || !isAct(act)) return UNKNOWN;
      return mayDo(people.get(p), act, week) ? 1 : 0;
    }

    int act(int p, int act) {
      if (!here(p) || !isAct(act)) return UNKNOWN;
      if (!mayDo(people.get(p), act, week)) return STATE;
      perform(people.get(p), act, week);
      return people.get(p).got;
    }

    int week() {
      week++;
      for (One o : people) {
        o.acted = false;
        forget(o, week);
      }
      return week;
    }

    int sell(int a, int b, int sort) {
      if (!here(a) || !here(b) || a == b || sort < 0 || sort > 2) return UNKNOWN;
      Credit best = null;
      for (Credit c : people.get(a).credits)
        if (c.sort == sort && (best == null || c.week < best.week)) best = c;
      if (best == null) return STATE;
      if (people.get(b).credits.size() >= 12) return FULL;
      people.get(a).credits.remove(best);
      people.get(b).credits.add(best);
      return best.week;
    }

    int leave(int a, int b) {
      if (!here(a) || !here(b) || a == b) return UNKNOWN;
      One from = people.get(a), to = people.get(b);
      from.credits.sort(Comparator.comparingInt(Credit::week).thenComparingInt(Credit::sort));
      int n = Math.min(from.credits.size(), 12 - to.credits.size());
      to.credits.addAll(from.credits.subList(0, n));
      from.credits.clear();
      from.owes = 0;
      from.gone = true;
      return n;
    }

    int amnesty() {
      int sum = count(4);
      for (One o : people) o.owes = 0;
      return sum;
    }

    /** One week further, by an ACT (9: none). */
    One after(One o, int act, int when) {
      One then = o.copy();
      if (act != 9) perform(then, act, when);
      then.acted = false;
      forget(then, when + 1);
      return then;
    }

    static final int[] LAWFUL = {0, 1, 2, 10, 11, 12, 13, 9};
    static final int[] ALL = {0, 1, 2, 10, 11, 12, 13, 20, 21, 22, 23, 9};

    int most(One o, int when, int weeks) {
      if (weeks <= 0) return o.got;
      int best = 0;
      for (int act : LAWFUL)
        if (act == 9 || mayDo(o, act, when)) best = Math.max(best, most(after(o, act, when), when + 1, weeks - 1));
      return best;
    }

    int gain(int p, int weeks, int what) {
      if (!here(p)) return UNKNOWN;
      if (weeks < 0 || weeks > 6 || what < 0 || what > 1) return OUTSIDE;
      if (gains == 60) return STATE;
      gains++;
      One o = people.get(p).copy();
      int when = week;
      if (o.acted) {
        o = after(o, 9, when);
        when++;
        weeks--;
      }
      o.got = 0;
      if (weeks <= 0) return what == 0 ? 0 : 9;
      int best = -1, first = 9;
      for (int act : LAWFUL) {
        if (act != 9 && !mayDo(o, act, when)) continue;
        int its = most(after(o, act, when), when + 1, weeks - 1);
        if (its > best) {
          best = its;
          first = act;
        }
      }
      return what == 0 ? best : first;
    }

    int soon(int p, int deed) {
      if (!here(p) || deed < 0 || deed > 3) return UNKNOWN;
      if (people.get(p).owes > 0) return STATE;
      for (int weeks = 0; weeks <= 9; weeks++)
        for (char sort : rules.get(deed).sorts.toCharArray()) {
          One o = people.get(p).copy();
          int when = week;
          if (o.acted) o = after(o, 9, when++);
          for (int i = 0; i < weeks; i++) o = after(o, sort - '0', when++);
          if (mayDo(o, 10 + deed, when)) return weeks;
        }
      return NONE;
    }

    int kept(int deed) {
      if (deed < 0 || deed > 3) return UNKNOWN;
      if (laws == 0) return STATE;
      for (int term = 1; term <= 9; term++) {
        boolean someone = false;
        for (One o : people)
          someone |= !o.gone && cover(o, deed, term, o.acted ? week + 1 : week) != null;
        if (!someone) return term;
      }
      return NONE;
    }

    int book(int p) {
      if (!here(p)) return UNKNOWN;
      if (people.get(p).acted) return STATE;
      int had = book.size();
      bookOne = people.get(p).copy();
      bookWeek = week;
      book.clear();
      return had;
    }

    int next(int got) {
      if (bookOne == null) return STATE;
      if (got < 0 || got > 999) return OUTSIDE;
      if (book.size() == 5) return FULL;
      book.add(got);
      return book.size();
    }

    /** What is OWED at the end of each row that agrees with the BOOK. */
    void rows(One o, int depth, List<Integer> ends) {
      if (depth == book.size()) {
        ends.add(o.owes);
        return;
      }
      for (int act : ALL) {
        if (act != 9 && !mayDo(o, act, bookWeek + depth)) continue;
        One then = after(o, act, bookWeek + depth);
        if (then.got == book.get(depth)) rows(then, depth + 1, ends);
      }
    }

    int walked(boolean owed) {
      if (bookOne == null || walks == 40) return STATE;
      walks++;
      List<Integer> ends = new ArrayList<>();
      rows(bookOne, 0, ends);
      return owed ? ends.stream().mapToInt(e -> e).max().orElse(NONE) : ends.size();
    }

    int years(int weeks, int seed, int what) {
      if (weeks < 1 || weeks > 60 || seed < 0 || what < 0 || what > 3) return OUTSIDE;
      if (laws == 0) return STATE;
      List<One> then = new ArrayList<>();
      for (One o : people) then.add(o.copy());
      long s = seed;
      int deeds = 0;
      for (int w = week; w < week + weeks; w++) {
        for (One o : then) {
          if (o.gone) continue;
          s = (1103515245L * s + 12345L) % (1L << 31);
          int act = ALL[(int) (s / 65536 % 12)];
          if (act == 9 || !mayDo(o, act, w)) continue;
          perform(o, act, w);
          if (act >= 10) deeds++;
        }
        for (One o : then) {
          o.acted = false;
          forget(o, w + 1);
        }
      }
      return switch (what) {
        case 0 -> then.stream().mapToInt(o -> o.got).sum();
        case 1 -> then.stream().mapToInt(o -> o.owes).sum();
        case 2 -> deeds;
        default -> (int) s;
      };
    }

    int image() {
      imagePeople = new ArrayList<>();
      for (One o : people) imagePeople.add(o.copy());
      imageWeek = week;
      return week;
    }

    int restore() {
      if (imagePeople == null) return STATE;
      people.clear();
      for (One o : imagePeople) people.add(o.copy());
      week = imageWeek;
      for (One o : people) forget(o, week);
      bookOne = null;
      book.clear();
      return week;
    }

    int count(int what) {
      return switch (what) {
        case 0 -> lapse;
        case 1 -> people.size();
        case 2 -> (int) people.stream().filter(o -> o.gone).count();
        case 3 -> week;
        case 4 -> people.stream().mapToInt(o -> o.owes).sum();
        case 5 -> people.stream().mapToInt(o -> o.got).sum();
        case 6 -> people.stream().mapToInt(o -> o.credits.size()).sum();
        case 7 -> book.size();
        case 8 -> page.length();
        case 9 -> laws;
        case 10 -> gains;
        case 11 -> walks;
        default -> OUTSIDE;
      };
    }

    long digest() {
      List<Integer> all = new ArrayList<>();
      for (int d = 0; laws > 0 && d < 4; d++) {
        for (int w = 0; w < 3; w++) all.add(deed(d, w));
        all.add(kept(d));
      }
      for (int p = 0; p < people.size(); p++) {
        for (int w = 0; w < 10; w++) all.add(about(p, w));
        for (int d = 0; d < 4 && here(p); d++) all.add(soon(p, d));
      }
      for (char c : page.toCharArray()) all.add((int) c);
      for (int w = 0; w < 12; w++) all.add(count(w));
      long h = 733;
      for (int n : all) h = 31 * h + n;
      return h;
    }
  }

  // ---- the runs

  private static int wrong = 0;
  private static long asked = 0;
  private static Random random;
  private static ServedAhead real;
  private static Model model;
  private static StringBuilder told;
  private static int calls;

  private static void same(String call, long got, long want) {
    asked++;
    calls++;
    told.append(call).append(" = ").append(got).append('\n');
    if (got != want && wrong++ < 3) System.out.println(told + "but due is " + want + "\n");
  }

  private static int upTo(int bound) {
    return random.nextInt(bound);
  }

  /** Mostly within, sometimes a little outside or far outside. */
  private static int around(int least, int bound) {
    int[] outside = {least - 1, bound, Integer.MIN_VALUE, Integer.MAX_VALUE};
    return upTo(25) == 0 ? outside[upTo(4)] : least + upTo(bound - least);
  }

  private static String someLaw() {
    StringBuilder text = new StringBuilder();
    int mostTerm = upTo(3) == 0 ? 9 : 3;
    int mostWorth = upTo(4) == 0 ? 1 : 10;
    for (int d = 0; d < 4; d++) {
      StringBuilder sorts = new StringBuilder("012");
      for (int i = upTo(3); i > 0; i--) sorts.deleteCharAt(upTo(sorts.length()));
      if (upTo(2) == 0) sorts.reverse();
      text.append(d == 0 ? "" : "/").append(1 + upTo(mostTerm)).append(upTo(mostWorth)).append(':').append(sorts);
    }
    text.append(';').append(1 + upTo(9));
    if (upTo(6) == 0) text.setCharAt(upTo(text.length()), ":;/0123456789 a".charAt(upTo(15)));
    if (upTo(12) == 0) text.setLength(upTo(text.length()));
    return text.toString();
  }

  private static void readLaw() {
    same("blank()", real.blank(), model.blank());
    for (char c : someLaw().toCharArray()) same("letter(" + (int) c + ")", real.letter(c), model.letter(c));
    same("fault()", real.fault(), model.fault());
    same("law()", real.law(), model.law());
  }

  private static int someAct() {
    int kind = upTo(7);
    return kind < 4 ? around(0, 3) : kind < 6 ? around(10, 14) : around(20, 24);
  }

  private static int someone() {
    return upTo(20) == 0 ? around(0, 4) : upTo(Math.max(1, model.people.size()));
  }

  private static void actAndMay() {
    int p = someone(), act = someAct();
    same("may(" + p + ", " + act + ")", real.may(p, act), model.may(p, act));
    same("act(" + p + ", " + act + ")", real.act(p, act), model.act(p, act));
  }

  /** A week in which most do something. */
  private static void busyWeek() {
    for (int p = 0; p < model.people.size(); p++) {
      int act = upTo(3) > 0 ? upTo(3) : someAct();
      if (upTo(5) > 0) {
        same("act(" + p + ", " + act + ")", real.act(p, act), model.act(p, act));
      }
    }
    same("week()", real.week(), model.week());
  }

  private static void trade() {
    int a = someone(), b = someone(), sort = around(0, 3);
    same("sell(" + a + ", " + b + ", " + sort + ")", real.sell(a, b, sort), model.sell(a, b, sort));
    if (upTo(12) == 0) same("leave(" + a + ", " + b + ")", real.leave(a, b), model.leave(a, b));
    if (upTo(6) == 0) same("amnesty()", real.amnesty(), model.amnesty());
  }

  private static void wouldBe() {
    int p = someone(), d = around(0, 4), w = around(0, upTo(6) == 0 ? 7 : 5), what = around(0, 2);
    same("gain(" + p + ", " + w + ", " + what + ")", real.gain(p, w, what), model.gain(p, w, what));
    same("soon(" + p + ", " + d + ")", real.soon(p, d), model.soon(p, d));
    same("kept(" + d + ")", real.kept(d), model.kept(d));
  }

  private static void keepBook() {
    int p = someone();
    same("book(" + p + ")", real.book(p), model.book(p));
    int got = model.known(p) ? model.people.get(p).got : 0;
    for (int i = upTo(7); i > 0; i--) {
      if (upTo(3) == 0) got += upTo(4) == 0 || model.rules.isEmpty() ? upTo(10) : model.rules.get(upTo(4)).worth;
      int says = upTo(40) == 0 ? around(0, 1000) : got;
      same("next(" + says + ")", real.next(says), model.next(says));
      if (upTo(4) == 0) actAndMay();
      if (upTo(6) == 0) same("week()", real.week(), model.week());
    }
    same("ways()", real.ways(), model.walked(false));
    same("owed()", real.owed(), model.walked(true));
  }

  private static void someYears() {
    int weeks = around(1, 61), seed = upTo(30) == 0 ? -1 : random.nextInt() & Integer.MAX_VALUE;
    for (int what = 0; what < 4; what++)
      same("years(" + weeks + ", " + seed + ", " + what + ")", real.years(weeks, seed, what), model.years(weeks, seed, what));
  }

  private static void tellAll() {
    for (int i = 0; i < 4; i++) {
      int p = someone(), what = around(0, 10), kind = around(0, 5), c = around(0, 12), d = around(0, 4), w = around(0, 3);
      same("about(" + p + ", " + what + ")", real.about(p, what), model.about(p, what));
      same("as(" + p + ", " + kind + ")", real.as(p, kind), model.as(p, kind));
      same("count(" + c + ")", real.count(c), model.count(c));
      same("deed(" + d + ", " + w + ")", real.deed(d, w), model.deed(d, w));
    }
  }

  private static void oneStep() {
    int what = upTo(100);
    if (what < 2) readLaw();
    else if (what < 10) {
      int kind = around(0, 5);
      same("person(" + kind + ")", real.person(kind), model.person(kind));
    } else if (what < 45) busyWeek();
    else if (what < 60) actAndMay();
    else if (what < 75) trade();
    else if (what < 83) wouldBe();
    else if (what < 88) keepBook();
    else if (what < 91) someYears();
    else if (what < 93) same("image()", real.image(), model.image());
    else if (what < 95) same("restore()", real.restore(), model.restore());
    else tellAll();
    if (upTo(8) == 0) same("digest()", real.digest(), model.digest());
    if (upTo(8) == 0) {
      int code = around(32, 127);
      same("letter(" + code + ")", real.letter(code), model.letter(code));
    }
  }

  private static void oneRun(int seed) {
    random = new Random(seed);
    real = new ServedAhead();
    model = new Model();
    told = new StringBuilder("run " + seed + "\n");
    calls = 0;
    int length = 50 + upTo(CALLS - 50);
    if (upTo(10) > 0) readLaw();
    while (calls < length - 40) oneStep();
    same("digest()", real.digest(), model.digest());
  }

  public static void main(String[] args) {
    int runs = args.length > 0 ? Integer.parseInt(args[0]) : RUNS;
    for (int seed = 0; seed < runs; seed++) oneRun(seed);
    System.out.println(runs + " runs, " + asked + " answers asked, " + wrong + " wrong");
    if (wrong != 0) System.exit(1);
  }
}
