import java.util.ArrayList;
import java.util.List;
import java.util.function.Supplier;
import java.util.function.ToLongFunction;

/**
 * What the tests of boundary cases share. A case bears the number of its promise and the
 * document's words for the boundary; a wrong answer is told with both.
 */
abstract class EdgeCases {
  static final int NONE = -1, UNKNOWN = -101, OUTSIDE = -102, STATE = -103, FULL = -104;
  static final int MIN = Integer.MIN_VALUE, MAX = Integer.MAX_VALUE;
  static final int PERSON = 0, WIDOW = 1, MONK = 2, THIEF = 3, BARON = 4;
  static final int[] ACTS = {0, 1, 2, 10, 11, 12, 13, 20, 21, 22, 23};
  /** A DEED that is out of reach: TERM 9, WORTH 0, its SORT served by nobody. */
  static final String FAR = "90:2";

  private static final int PROMISES = 27;
  private static final int[] casesOf = new int[PROMISES + 1];
  private static String current = "";
  private static int asked = 0;
  private static int askedInCase = 0;
  private static int wrong = 0;

  /** One case; what it throws is a wrong answer, too. */
  static void edge(int promise, String name, Runnable body) {
    current = "promise " + promise + ", " + name;
    casesOf[promise]++;
    askedInCase = 0;
    try {
      body.run();
    } catch (RuntimeException | StackOverflowError thrown) {
      tellWrong(thrown.toString());
    }
    if (askedInCase == 0) tellWrong("asks nothing");
  }

  static void due(String call, long got, long want) {
    asked++;
    askedInCase++;
    if (got != want) tellWrong(call + " answered " + got + ", due is " + want);
  }

  private static void tellWrong(String what) {
    wrong++;
    System.out.println(current + ": " + what);
  }

  /** A call is refused, again and again, and an object with it goes on like one without it. */
  static void refused(String call, Supplier<ServedAhead> made, ToLongFunction<ServedAhead> of, long want) {
    ServedAhead with = made.get();
    for (int times = 0; times < 3; times++) due(call, of.applyAsLong(with), want);
    due(call + ": first answer that it changed", firstUnlike(future(with), future(made.get())), NONE);
  }

  /** A call that only tells something: an object with it goes on like one without it. */
  static void changesNothing(String call, Supplier<ServedAhead> made, ToLongFunction<ServedAhead> of) {
    ServedAhead with = made.get();
    of.applyAsLong(with);
    due(call + ": first answer that it changed", firstUnlike(future(with), future(made.get())), NONE);
  }

  private static int firstUnlike(List<Long> a, List<Long> b) {
    for (int i = 0; i < a.size(); i++) if (!a.get(i).equals(b.get(i))) return i;
    return NONE;
  }

  /** All that can still be asked of an object, and what becomes of it and of its IMAGE: some 130 calls. */
  private static List<Long> future(ServedAhead x) {
    List<Long> all = new ArrayList<>();
    all.add(x.digest());
    for (int p = 0; p < 4; p++) for (int act : ACTS) all.add((long) x.may(p, act));
    for (int p = 0; p < 4; p++) all.add((long) x.gain(p, 4, p % 2));
    for (int i = 0; i < 3; i++) {
      all.add((long) x.ways());
      all.add((long) x.owed());
      all.add((long) x.next(3 * i));
    }
    for (int what = 0; what < 4; what++) all.add((long) x.years(9, 77, what));
    passTenWeeks(x, all);
    all.add((long) x.restore());
    all.add(x.digest());
    passTenWeeks(x, all);
    return all;
  }

  /** What lapses in which week tells the weeks of all CREDITS. */
  private static void passTenWeeks(ServedAhead x, List<Long> all) {
    for (int i = 0; i < 10; i++) {
      all.add((long) x.week());
      all.add(x.digest());
    }
  }

  static void put(ServedAhead x, String text) {
    for (char c : text.toCharArray()) x.letter(c);
  }

  static int read(ServedAhead x, String law) {
    x.blank();
    put(x, law);
    return x.law();
  }

  static ServedAhead under(String law, int... kinds) {
    ServedAhead x = new ServedAhead();
    if (read(x, law) < 0) tellWrong("no LAW: " + law);
    for (int kind : kinds) x.person(kind);
    return x;
  }

  /** Serves once a week; ends in the week behind the last one. */
  static void serve(ServedAhead x, int person, int... sorts) {
    for (int sort : sorts) {
      x.act(person, sort);
      x.week();
    }
  }

  static void serveWeeks(ServedAhead x, int person, int sort, int weeks) {
    for (int i = 0; i < weeks; i++) serve(x, person, sort);
  }

  static void passWeeks(ServedAhead x, int weeks) {
    for (int i = 0; i < weeks; i++) x.week();
  }

  /** A helper serves in this week, and sells at once what he has of that SORT, as far as there is room. */
  static void serveAndSell(ServedAhead x, int helper, int other, int sort) {
    x.act(helper, sort);
    for (int i = 0; i < 12 && x.sell(helper, other, sort) >= 0; i++) { }
  }

  /** CREDITS of SORTS 0, 1 and 2, as a number of three digits of base 100. */
  static int sortsOf(ServedAhead x, int person) {
    return (x.about(person, 4) * 100 + x.about(person, 5)) * 100 + x.about(person, 6);
  }

  /**
   * Week 2 under LAPSE 3. 0: a WIDOW with CREDITS of SORTS 0 and 1, no ACT yet. 1: a MONK with
   * six, who did an ACT. 2: a BARON, GONE. 3: a PERSON who OWES 8. There are an IMAGE of week 1,
   * a BOOK of two weeks and three letters on THE PAGE.
   */
  static ServedAhead busy() {
    ServedAhead x = under("23:0/35:01/49:2/10:012;3", WIDOW, MONK, BARON, PERSON);
    x.act(0, 0);
    x.act(1, 2);
    x.act(2, 20);
    x.act(3, 1);
    x.week();
    x.image();
    x.act(0, 1);
    x.act(1, 0);
    x.act(3, 22);
    x.week();
    x.leave(2, 1);
    x.act(1, 1);
    x.book(0);
    x.next(0);
    x.next(3);
    x.gain(0, 2, 0);
    x.ways();
    put(x, "12:");
    return x;
  }

  /** Each of these promises has a case, and no answer was wrong. */
  static void end(int... promises) {
    for (int promise : promises) {
      current = "promise " + promise;
      if (casesOf[promise] == 0) tellWrong("has no case");
    }
    int cases = 0;
    for (int many : casesOf) cases += many;
    System.out.println(cases + " boundary cases, " + asked + " answers asked, " + wrong + " wrong");
    if (wrong != 0) System.exit(1);
  }
}
