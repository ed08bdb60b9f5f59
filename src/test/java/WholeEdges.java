import java.math.BigInteger;
import java.util.ArrayList;
import java.util.List;

// The boundaries of what is told of all: a new object (1), images, counts and the digest (24 to 27).
public final class WholeEdges extends EdgeCases {
  private static final String EASY = "11:0/11:1/11:2/11:012;9";

  public static void main(String[] args) {
    newObject();
    calls();
    image();
    restore();
    restoreAndLapse();
    restoreRefused();
    count();
    countEach();
    countRefused();
    digest();
    digestOfPeople();
    end(1, 24, 25, 26, 27);
  }

  // ---- 1 a new object

  private static void newObject() {
    edge(1, "a new object: no LAW", () -> {
      ServedAhead x = new ServedAhead();
      due("LAPSE", x.count(0), 0);
      due("deed(0, 0)", x.deed(0, 0), STATE);
      due("person(0)", x.person(0), STATE);
      due("kept(0)", x.kept(0), STATE);
      due("years(1, 0, 0)", x.years(1, 0, 0), STATE);
      due("how often one was read", x.count(9), 0);
    });
    edge(1, "a new object: nobody", () -> {
      ServedAhead x = new ServedAhead();
      due("PEOPLE", x.count(1), 0);
      due("GONE", x.count(2), 0);
      for (int p = -1; p <= 4; p++) {
        due("about", x.about(p, 0), UNKNOWN);
        due("as", x.as(p, 0), UNKNOWN);
        due("may", x.may(p, 0), UNKNOWN);
        due("act", x.act(p, 0), UNKNOWN);
        due("gain", x.gain(p, 0, 0), UNKNOWN);
        due("soon", x.soon(p, 0), UNKNOWN);
        due("book", x.book(p), UNKNOWN);
      }
      due("sell", x.sell(0, 1, 0), UNKNOWN);
      due("leave", x.leave(0, 1), UNKNOWN);
      due("amnesty", x.amnesty(), 0);
    });
    edge(1, "a new object: week 0, an empty PAGE, no BOOK, no IMAGE", () -> {
      ServedAhead x = new ServedAhead();
      for (int what = 0; what < 12; what++) due("count(" + what + ")", x.count(what), 0);
      due("blank()", x.blank(), 0);
      due("fault()", x.fault(), 0);
      due("law()", x.law(), STATE);
      due("next(0)", x.next(0), STATE);
      due("ways()", x.ways(), STATE);
      due("owed()", x.owed(), STATE);
      due("restore()", x.restore(), STATE);
      due("all that was refused changed nothing", x.digest(), new ServedAhead().digest());
      due("the next week", x.week(), 1);
    });
    edge(1, "a new object: it has nothing of another one", () -> {
      ServedAhead other = busy();
      long before = other.digest();
      due("a new one", new ServedAhead().digest(), digestOf(0, 0, 0, 0, 0, 0, 0, 0, 0, 0, 0, 0));
      ServedAhead x = busy();
      x.week();
      read(x, EASY);
      due("the other one", other.digest(), before);
    });
    edge(1, "the constants", () -> {
      due("NONE", ServedAhead.NONE, NONE);
      due("UNKNOWN", ServedAhead.UNKNOWN, UNKNOWN);
      due("OUTSIDE", ServedAhead.OUTSIDE, OUTSIDE);
      due("STATE", ServedAhead.STATE, STATE);
      due("FULL", ServedAhead.FULL, FULL);
    });
  }

  private static void calls() {
    edge(12, "an object is used for 512 calls: the last one", () -> {
      ServedAhead x = new ServedAhead();
      for (int i = 1; i < 512; i++) x.week();
      due("week 512", x.week(), 512);
    });
    edge(11, "an object is used for 512 calls: serving and lapsing in the last weeks", () -> {
      ServedAhead x = under("11:0/11:1/11:2/11:012;1", PERSON);
      passWeeks(x, 400);
      due("serves", x.act(0, 2), 0);
      due("its week", x.about(0, 7), 400);
      x.week();
      due("COVERED", x.may(0, 12), 1);
      x.week();
      due("lapsed", x.may(0, 12), 0);
    });
    edge(27, "an object is used for 512 calls: all of them digest()", () -> {
      ServedAhead x = new ServedAhead();
      long first = x.digest();
      for (int i = 2; i <= 512; i++) due("call " + i, x.digest(), first);
    });
  }

  // ---- 24 image

  private static void image() {
    edge(24, "image: the week: the first one, with nobody and no LAW", () -> {
      ServedAhead x = new ServedAhead();
      due("image()", x.image(), 0);
      due("restore()", x.restore(), 0);
      due("as new", x.digest(), new ServedAhead().digest());
    });
    edge(24, "image: one; the latest", () -> {
      ServedAhead x = under(EASY, PERSON);
      due("the first", x.image(), 0);
      serve(x, 0, 0);
      due("the second", x.image(), 1);
      serve(x, 0, 0);
      due("restore()", x.restore(), 1);
      due("CREDITS", x.about(0, 3), 1);
      due("restore() again", x.restore(), 1);
    });
    edge(24, "image: it changes nothing else, the BOOK goes on", () -> {
      ServedAhead x = busy();
      long before = x.digest();
      due("image()", x.image(), 2);
      due("all told", x.digest(), before);
      due("next(3)", x.next(3), 3);
    });
    edge(24, "image: what comes then is nothing to it", () -> {
      ServedAhead x = busy();
      x.image();
      long before = x.digest();
      x.act(0, 11);
      x.amnesty();
      x.sell(1, 3, 2);
      x.leave(1, 0);
      x.week();
      x.restore();
      x.book(0);
      x.next(0);
      x.next(0);
      due("all told, with a BOOK of two weeks", x.digest(), before);
    });
  }

  // ---- 25 restore

  private static void restore() {
    edge(25, "restore: those that come since are gone", () -> {
      ServedAhead x = under(EASY, PERSON);
      x.image();
      x.person(MONK);
      x.person(MONK);
      x.act(1, 20);
      x.restore();
      due("PEOPLE", x.count(1), 1);
      due("about(1, 0)", x.about(1, 0), UNKNOWN);
      due("as(1, 0)", x.as(1, 0), UNKNOWN);
      due("OWED", x.count(4), 0);
      due("got", x.count(5), 0);
      due("CREDITS", x.count(6), 0);
    });
    edge(25, "restore: nobody was kept", () -> {
      ServedAhead x = under(EASY);
      x.image();
      for (int i = 0; i < 4; i++) x.person(BARON);
      due("restore()", x.restore(), 0);
      due("PEOPLE", x.count(1), 0);
      for (int i = 0; i < 4; i++) due("room for four", x.person(MONK), i);
      due("a fifth", x.person(MONK), FULL);
    });
    edge(25, "restore: four were kept", () -> {
      ServedAhead x = busy();
      x.week();
      due("restore()", x.restore(), 1);
      due("PEOPLE", x.count(1), 4);
      due("one who is GONE since is back", x.about(2, 9), 0);
      due("he OWES again", x.about(2, 2), 2);
      due("a fifth", x.person(0), FULL);
    });
    edge(25, "restore: who was GONE is GONE", () -> {
      ServedAhead x = under(EASY, PERSON, PERSON);
      x.leave(0, 1);
      x.image();
      x.week();
      x.restore();
      due("about(0, 9)", x.about(0, 9), 1);
      due("GONE", x.count(2), 1);
    });
    edge(25, "restore: all that is told of them, the ACT of that week, too", () -> {
      ServedAhead x = under(EASY, MONK, PERSON);
      x.act(0, 0);
      x.act(1, 20);
      x.image();
      x.week();
      x.week();
      x.restore();
      int[][] want = {{2, 0, 0, 2, 2, 0, 0, 0, 1, 0}, {0, 1, 2, 0, 0, 0, 0, NONE, 1, 0}};
      for (int p = 0; p < 2; p++) {
        for (int what = 0; what < 10; what++) due("about(" + p + ", " + what + ")", x.about(p, what), want[p][what]);
      }
      due("a second ACT", x.may(0, 0), 0);
    });
    edge(25, "restore: no BOOK has begun", () -> {
      ServedAhead x = busy();
      due("weeks ahead of it", x.count(7), 2);
      x.restore();
      due("weeks", x.count(7), 0);
      due("next(0)", x.next(0), STATE);
      due("ways()", x.ways(), STATE);
      due("owed()", x.owed(), STATE);
      due("a BOOK then", x.book(0), 0);
    });
    edge(25, "restore: THE PAGE, the LAW and what was done stay", () -> {
      ServedAhead x = busy();
      x.restore();
      due("letters", x.count(8), 3);
      due("how often a LAW was read", x.count(9), 1);
      due("gain()", x.count(10), 1);
      due("ways(), owed()", x.count(11), 1);
      read(x, EASY);
      x.restore();
      due("LAPSE", x.count(0), 9);
      due("how often a LAW was read then", x.count(9), 2);
    });
  }

  private static void restoreAndLapse() {
    for (int lapse = 1; lapse <= 9; lapse++) {
      int so = lapse;
      edge(25, "restore: what does not count any more by THE LAW there is then is gone: LAPSE " + so, () -> {
        due("so many weeks behind", keptBy(so, so), 1);
        if (so < 9) due("one more", keptBy(so, so + 1), 0);
      });
    }
    edge(25, "restore: what is gone so is gone for good", () -> {
      ServedAhead x = under(EASY, PERSON);
      serve(x, 0, 0, 0);
      x.image();
      read(x, "11:0/11:1/11:2/11:012;1");
      x.restore();
      due("one of two", x.about(0, 3), 1);
      read(x, EASY);
      due("under the first LAW again", x.about(0, 3), 1);
    });
    edge(25, "restore: weeks that came since are nothing to it", () -> {
      ServedAhead x = under("11:0/11:1/11:2/11:012;1", PERSON);
      x.act(0, 0);
      x.image();
      passWeeks(x, 9);
      due("lapsed", x.about(0, 3), 0);
      due("restore()", x.restore(), 0);
      due("it counts again", x.about(0, 3), 1);
      x.week();
      due("it still counts", x.about(0, 3), 1);
      x.week();
      due("it lapsed again", x.about(0, 3), 0);
    });
  }

  /** CREDITS by restore() under another LAPSE: one served so many weeks ahead of the IMAGE. */
  private static int keptBy(int lapse, int weeks) {
    ServedAhead x = under(EASY, PERSON);
    x.act(0, 0);
    passWeeks(x, weeks);
    x.image();
    read(x, "11:0/11:1/11:2/11:012;" + lapse);
    x.restore();
    return x.about(0, 3);
  }

  private static void restoreRefused() {
    edge(25, "restore: STATE: none was kept", () -> {
      due("a new object", new ServedAhead().restore(), STATE);
      ServedAhead x = unkept();
      due("restore()", x.restore(), STATE);
      x.image();
      due("one was", x.restore(), 1);
    });
    edge(25, "restore: refused, it changes nothing: the BOOK goes on", () -> {
      refused("restore()", WholeEdges::unkept, x -> x.restore(), STATE);
      refused("restore()", ServedAhead::new, x -> x.restore(), STATE);
    });
  }

  private static ServedAhead unkept() {
    ServedAhead x = under(EASY, PERSON, MONK);
    serve(x, 1, 0);
    x.book(0);
    x.next(0);
    return x;
  }

  // ---- 26 count

  private static void count() {
    edge(26, "count: OUTSIDE: what (0 to 11)", () -> {
      ServedAhead x = busy();
      due("-1", x.count(-1), OUTSIDE);
      due("0", x.count(0), 3);
      due("11", x.count(11), 1);
      due("12", x.count(12), OUTSIDE);
      due("MIN", x.count(MIN), OUTSIDE);
      due("MAX", x.count(MAX), OUTSIDE);
      due("without a LAW", new ServedAhead().count(12), OUTSIDE);
    });
    edge(26, "count: each of them", () -> {
      int[] want = {3, 4, 1, 2, 8, 13, 9, 2, 3, 1, 1, 1};
      for (int what = 0; what < 12; what++) due("count(" + what + ")", busy().count(what), want[what]);
    });
    edge(26, "count: 0 LAPSE (0: no LAW), 1 to 9", () -> {
      ServedAhead x = new ServedAhead();
      due("no LAW", x.count(0), 0);
      put(x, EASY);
      due("one that is not read", x.count(0), 0);
      for (int lapse = 1; lapse <= 9; lapse++) due("LAPSE", under("11:0/11:1/11:2/11:012;" + lapse).count(0), lapse);
    });
    edge(26, "count: 1 PEOPLE (GONE ones, too), 2 GONE ones: 0 to 4, 0 to 3", () -> {
      ServedAhead x = under(EASY);
      for (int people = 0; people <= 4; people++) {
        due("PEOPLE", x.count(1), people);
        due("GONE", x.count(2), 0);
        x.person(PERSON);
      }
      for (int gone = 1; gone <= 3; gone++) {
        x.leave(gone, 0);
        due("PEOPLE", x.count(1), 4);
        due("GONE", x.count(2), gone);
      }
    });
  }

  private static void countEach() {
    edge(26, "count: 4 what all OWE, 5 what all got, 6 CREDITS: the most", () -> {
      ServedAhead x = under("99:0/90:2/90:2/90:2;9", MONK, MONK, MONK, MONK);
      for (int i = 0; i < 7; i++) {
        for (int p = 0; p < 4; p++) x.act(p, 1);
        x.week();
      }
      due("CREDITS", x.count(6), 48);
      for (int p = 0; p < 4; p++) x.act(p, 20);
      due("OWE", x.count(4), 72);
      due("got", x.count(5), 36);
      x.leave(0, 1);
      due("OWE, one GONE", x.count(4), 54);
      due("got, one GONE, too", x.count(5), 36);
      due("CREDITS, no room for his", x.count(6), 36);
    });
    edge(26, "count: 7 weeks of the BOOK, 8 letters of THE PAGE: none and the most", () -> {
      ServedAhead x = under(EASY, PERSON);
      due("no BOOK", x.count(7), 0);
      x.book(0);
      for (int weeks = 0; weeks <= 5; weeks++) {
        due("weeks", x.count(7), weeks);
        x.next(0);
      }
      due("a sixth was refused", x.count(7), 5);
      for (int letters = 0; letters <= 30; letters++) {
        due("letters", x.count(8), letters);
        x.letter(' ');
      }
      due("a letter more was refused", x.count(8), 30);
    });
    edge(26, "count: 9, 10, 11 how often: what was refused does not count", () -> {
      ServedAhead x = under(EASY, PERSON);
      x.law();
      x.gain(0, 7, 0);
      x.ways();
      x.owed();
      due("laws", x.count(9), 1);
      due("gain()", x.count(10), 0);
      due("ways(), owed()", x.count(11), 0);
      for (int i = 2; i <= 4; i++) {
        read(x, EASY);
        due("laws", x.count(9), i);
      }
    });
  }

  private static void countRefused() {
    edge(26, "count: refused, and asked, it changes nothing", () -> {
      refused("count(-1)", EdgeCases::busy, x -> x.count(-1), OUTSIDE);
      refused("count(12)", EdgeCases::busy, x -> x.count(12), OUTSIDE);
      for (int what = 0; what < 12; what++) {
        int asked = what;
        changesNothing("count(" + what + ")", EdgeCases::busy, x -> x.count(asked));
      }
    });
  }

  // ---- 27 digest

  private static void digest() {
    edge(27, "digest: no LAW, nobody, an empty PAGE", () -> {
      due("digest()", new ServedAhead().digest(), digestOf(0, 0, 0, 0, 0, 0, 0, 0, 0, 0, 0, 0));
    });
    edge(27, "digest: no LAW: letters alone, a full PAGE", () -> {
      ServedAhead x = new ServedAhead();
      long[] all = new long[42];
      for (int i = 0; i < 30; i++) {
        all[i] = 126 - i;
        x.letter(126 - i);
      }
      all[30 + 8] = 30;
      due("digest()", x.digest(), digestOf(all));
    });
    edge(27, "digest: a LAW, nobody", () -> {
      due("digest()", under("12:0/34:12/59:012/90:2;7").digest(),
          digestOf(1, 2, 1, 1, 3, 4, 6, 1, 5, 9, 7, 1, 9, 0, 4, 1, 7, 0, 0, 0, 0, 0, 0, 0, 0, 1, 0, 0));
    });
    edge(27, "digest: as told by the calls, in order, as longs, wrapping", () -> {
      due("a new object", new ServedAhead().digest(), digestByCalls(new ServedAhead(), ""));
      due("busy", busy().digest(), digestByCalls(busy(), "12:"));
      ServedAhead x = busy(), y = busy();
      for (int i = 0; i < 3; i++) {
        due("week " + i + " behind", x.digest(), digestByCalls(y, "12:"));
        x.week();
        y.week();
      }
    });
    edge(27, "digest: it changes nothing", () -> changesNothing("digest()", EdgeCases::busy, x -> x.digest()));
  }

  private static void digestOfPeople() {
    edge(27, "digest: KEPT by none, SOON none: NONE", () -> {
      ServedAhead x = under("20:1/10:0/10:0/10:0;1", PERSON, MONK, MONK, MONK);
      for (int monk = 1; monk < 4; monk++) serveAndSell(x, monk, 0, 0);
      x.week();
      for (int monk = 1; monk < 4; monk++) serveAndSell(x, monk, 0, 0);
      due("KEPT", x.kept(1), NONE);
      due("SOON", x.soon(0, 0), NONE);
      due("digest()", x.digest(), digestByCalls(x, ""));
    });
    edge(27, "digest: of who OWES what soon() tells: STATE", () -> {
      ServedAhead x = under(EASY, BARON);
      x.act(0, 20);
      due("digest()", x.digest(), digestOf(1, 1, 1, 1, 1, 1, 2, 1, 1, 1, 4, 1, 1, 1, 7, 1,
          4, 2, 1, 0, 0, 0, 0, NONE, 1, 0, STATE, STATE, STATE, STATE, 9, 1, 0, 0, 1, 2, 0, 0, 0, 1, 0, 0));
    });
    edge(27, "digest: of who is GONE no SOON", () -> {
      ServedAhead x = under(EASY, PERSON, PERSON);
      x.leave(0, 1);
      due("digest()", x.digest(), digestOf(1, 1, 1, 1, 1, 1, 2, 1, 1, 1, 4, 1, 1, 1, 7, 1,
          0, 0, 0, 0, 0, 0, 0, NONE, 0, 1, 0, 0, 0, 0, 0, 0, 0, NONE, 0, 0, 1, 1, 1, 1,
          9, 2, 1, 0, 0, 0, 0, 0, 0, 1, 0, 0));
    });
  }

  /** The numbers as the calls tell them. */
  private static long digestByCalls(ServedAhead x, String page) {
    List<Long> all = new ArrayList<>();
    for (int deed = 0; x.count(9) > 0 && deed < 4; deed++) {
      for (int what = 0; what < 3; what++) all.add((long) x.deed(deed, what));
      all.add((long) x.kept(deed));
    }
    for (int p = 0; p < x.count(1); p++) {
      for (int what = 0; what < 10; what++) all.add((long) x.about(p, what));
      for (int deed = 0; x.about(p, 9) == 0 && deed < 4; deed++) all.add((long) x.soon(p, deed));
    }
    for (char c : page.toCharArray()) all.add((long) c);
    for (int what = 0; what < 12; what++) all.add((long) x.count(what));
    return digestOf(all.stream().mapToLong(n -> n).toArray());
  }

  /** Reckoned without wrapping, and wrapped at the end. */
  private static long digestOf(long... numbers) {
    BigInteger h = BigInteger.valueOf(733);
    for (long n : numbers) h = h.multiply(BigInteger.valueOf(31)).add(BigInteger.valueOf(n));
    return h.longValue();
  }
}
