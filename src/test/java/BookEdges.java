// The boundaries of a BOOK and of YEARS: promises 19 to 23.
public final class BookEdges extends EdgeCases {
  /** Each DEED is worth 9 and has TERM 1; each SORT covers one, any covers the last. */
  private static final String DEAR = "19:0/19:1/19:2/19:012;9";

  public static void main(String[] args) {
    book();
    bookRefused();
    next();
    nextRefused();
    ways();
    waysBehind();
    owed();
    fortyTimes();
    years();
    draws();
    seeds();
    yearsRefused();
    end(19, 20, 21, 22, 23);
  }

  private static ServedAhead begun(String law, int kind) {
    ServedAhead x = under(law, kind);
    x.book(0);
    return x;
  }

  // ---- 19 book

  private static void book() {
    edge(19, "book: how many weeks another one had: there was none", () -> {
      due("book(0)", under(DEAR, PERSON).book(0), 0);
    });
    edge(19, "book: how many weeks another one had: 0 to 5", () -> {
      for (int weeks = 0; weeks <= 5; weeks++) {
        ServedAhead x = begun(DEAR, PERSON);
        for (int i = 0; i < weeks; i++) x.next(0);
        due("book(0)", x.book(0), weeks);
        due("it has no weeks", x.count(7), 0);
        due("the first one", x.next(9), 1);
      }
    });
    edge(19, "book: in a week in which he did none yet", () -> {
      ServedAhead x = under(DEAR, PERSON);
      x.act(0, 0);
      due("he did one", x.book(0), STATE);
      x.week();
      due("in the next week", x.book(0), 0);
    });
    edge(19, "book: others may have done one; who OWES has a BOOK, too", () -> {
      ServedAhead x = busy();
      due("book(3)", x.book(3), 2);
      due("he OWES", x.owed(), 8);
    });
    edge(19, "book: from what he is as it begins, whatever comes then", () -> {
      ServedAhead x = begun(DEAR, PERSON);
      x.person(MONK);
      x.next(0);
      x.next(9);
      int ways = x.ways();
      x.act(0, 20);
      due("behind an ACT", x.ways(), ways);
      passWeeks(x, 12);
      due("behind weeks", x.ways(), ways);
      x.act(1, 0);
      x.sell(1, 0, 0);
      due("behind SELLING", x.ways(), ways);
      x.amnesty();
      x.leave(0, 1);
      due("behind LEAVING", x.ways(), ways);
      due("its weeks", x.count(7), 2);
      due("one more", x.next(9), 3);
    });
  }

  private static void bookRefused() {
    edge(19, "book: UNKNOWN: person, also who is GONE", () -> {
      ServedAhead x = busy();
      for (int wrong : new int[] {MIN, -1, 2, 4, MAX}) due("of " + wrong, x.book(wrong), UNKNOWN);
      due("of 0", x.book(0), 2);
      due("of 3", x.book(3), 0);
      due("nobody at all", new ServedAhead().book(0), UNKNOWN);
    });
    edge(19, "book: UNKNOWN is told ahead of STATE", () -> {
      ServedAhead x = busy();
      due("he did an ACT", x.book(1), STATE);
      x.leave(1, 0);
      due("he did an ACT, and is GONE", x.book(1), UNKNOWN);
    });
    edge(19, "book: refused, it changes nothing: the other one goes on", () -> {
      refused("book(1)", EdgeCases::busy, x -> x.book(1), STATE);
      refused("book(2)", EdgeCases::busy, x -> x.book(2), UNKNOWN);
      refused("book(4)", EdgeCases::busy, x -> x.book(4), UNKNOWN);
    });
  }

  // ---- 20 next

  private static void next() {
    edge(20, "next: 5 weeks at most", () -> {
      ServedAhead x = begun(DEAR, PERSON);
      for (int weeks = 1; weeks <= 5; weeks++) due("next(0)", x.next(0), weeks);
      due("a sixth", x.next(0), FULL);
      due("its weeks", x.count(7), 5);
      x.book(0);
      due("in another BOOK", x.next(0), 1);
    });
    edge(20, "next: got (0 to 999)", () -> {
      ServedAhead x = begun(DEAR, PERSON);
      due("-1", x.next(-1), OUTSIDE);
      due("0", x.next(0), 1);
      due("999", x.next(999), 2);
      due("1000", x.next(1000), OUTSIDE);
      due("MIN", x.next(MIN), OUTSIDE);
      due("MAX", x.next(MAX), OUTSIDE);
    });
    edge(20, "next: less than behind the week ahead: it is told, there are no WAYS", () -> {
      ServedAhead x = begun(DEAR, PERSON);
      x.next(9);
      due("next(8)", x.next(8), 2);
      due("ways()", x.ways(), 0);
    });
    edge(20, "next: of one who got 1000", () -> {
      ServedAhead x = under("19:0/90:2/90:2/90:2;9", BARON);
      for (int i = 0; i < 100; i++) {
        x.act(0, 20);
        x.week();
        serve(x, 0, 0);
      }
      due("got", x.about(0, 1), 1000);
      x.book(0);
      due("next(1000)", x.next(1000), OUTSIDE);
      due("next(999)", x.next(999), 1);
      due("ways()", x.ways(), 0);
      due("owed()", x.owed(), NONE);
    });
  }

  private static void nextRefused() {
    edge(20, "next: STATE: no BOOK has begun", () -> {
      due("a new object", new ServedAhead().next(0), STATE);
      due("nobody's", under(DEAR, PERSON).next(0), STATE);
      ServedAhead x = begun(DEAR, PERSON);
      read(x, DEAR);
      due("behind another LAW", x.next(0), STATE);
      ServedAhead y = begun(DEAR, PERSON);
      y.image();
      due("behind image()", y.next(0), 1);
      y.restore();
      due("behind restore()", y.next(0), STATE);
    });
    edge(20, "next: STATE ahead of OUTSIDE ahead of FULL", () -> {
      due("STATE and OUTSIDE", new ServedAhead().next(1000), STATE);
      due("STATE and OUTSIDE, below", under(DEAR, PERSON).next(-1), STATE);
      due("OUTSIDE and FULL", fullBook().next(1000), OUTSIDE);
      due("OUTSIDE and FULL, below", fullBook().next(-1), OUTSIDE);
      due("FULL", fullBook().next(999), FULL);
    });
    edge(20, "next: refused, it changes nothing", () -> {
      refused("next(0)", ServedAhead::new, x -> x.next(0), STATE);
      refused("next(0)", () -> under(DEAR, MONK), x -> x.next(0), STATE);
      refused("next(1000)", EdgeCases::busy, x -> x.next(1000), OUTSIDE);
      refused("next(-1)", EdgeCases::busy, x -> x.next(-1), OUTSIDE);
      refused("next(9)", BookEdges::fullBook, x -> x.next(9), FULL);
    });
  }

  private static ServedAhead fullBook() {
    ServedAhead x = busy();
    for (int i = 3; i <= 5; i++) x.next(3);
    return x;
  }

  // ---- 21 ways

  private static void ways() {
    edge(21, "ways: 1, if there are no weeks", () -> {
      due("of one who has nothing", begun(DEAR, PERSON).ways(), 1);
      ServedAhead x = busy();
      x.book(3);
      due("of one who OWES", x.ways(), 1);
    });
    edge(21, "ways: one to five weeks in which he got nothing: a SORT, or none", () -> {
      ServedAhead x = begun(DEAR, PERSON);
      for (int weeks = 1, want = 4; weeks <= 5; weeks++, want *= 4) {
        x.next(0);
        due(weeks + " weeks", x.ways(), want);
      }
    });
    edge(21, "ways: none", () -> {
      ServedAhead x = begun(DEAR, PERSON);
      x.next(8);
      due("one less than any", x.ways(), 0);
      x.book(0);
      x.next(9);
      due("as much as each of four", x.ways(), 4);
      x.book(0);
      x.next(10);
      due("one more than any", x.ways(), 0);
      x.book(0);
      x.next(999);
      due("the most that can be told", x.ways(), 0);
    });
    edge(21, "ways: five weeks, the DEED in the last one, COVERED or not", () -> {
      ServedAhead x = begun(DEAR, PERSON);
      for (int i = 0; i < 4; i++) x.next(0);
      x.next(9);
      int holdsOne = 256 - 81, holdsAny = 256 - 1;
      due("ways()", x.ways(), 4 * 256 + 3 * holdsOne + holdsAny);
    });
    edge(21, "ways: with what he had got as it begins", () -> {
      ServedAhead x = under(DEAR, PERSON);
      serve(x, 0, 0, 20);
      due("he got", x.about(0, 1), 9);
      x.amnesty();
      x.book(0);
      x.next(0);
      due("as if he had got nothing", x.ways(), 0);
      x.book(0);
      x.next(9);
      due("nothing more", x.ways(), 4);
      x.next(18);
      int covered = 2 + 2 + 3 + 3;
      due("one DEED more", x.ways(), 4 * 4 + covered);
    });
  }

  private static void waysBehind() {
    edge(21, "ways: who OWES: a SORT, or none, until he OWES nothing", () -> {
      ServedAhead x = under(DEAR, BARON);
      x.act(0, 20);
      x.week();
      x.book(0);
      x.next(20);
      due("a DEED at once", x.ways(), 0);
      x.book(0);
      x.next(10);
      x.next(20);
      due("behind one of three SORTS, not COVERED", x.ways(), 3 * 4);
    });
    edge(21, "ways: a CREDIT counts in so many of its weeks as LAPSE tells", () -> {
      due("LAPSE 1, the week behind", waysToDeed(1, 1), 1 + 1);
      due("LAPSE 1, two behind: but for one who served again", waysToDeed(1, 2), 4 + 1);
      due("LAPSE 2, two behind", waysToDeed(2, 2), 4 + 4);
      due("LAPSE 2, three behind: but for those who served again", waysToDeed(2, 3), 16 + (16 - 9));
    });
    edge(21, "ways: STATE: no BOOK has begun", () -> {
      due("a new object", new ServedAhead().ways(), STATE);
      due("nobody's", under(DEAR, PERSON).ways(), STATE);
      ServedAhead x = begun(DEAR, PERSON);
      read(x, DEAR);
      due("behind another LAW", x.ways(), STATE);
      ServedAhead y = begun(DEAR, PERSON);
      y.image();
      y.restore();
      due("behind restore()", y.ways(), STATE);
    });
    edge(21, "ways: refused, it changes nothing; it was not done", () -> {
      refused("ways()", ServedAhead::new, x -> x.ways(), STATE);
      refused("ways()", () -> under(DEAR, MONK), x -> x.ways(), STATE);
      refused("ways()", BookEdges::worn, x -> x.ways(), STATE);
    });
  }

  /** A CREDIT of week 0, a BOOK from week 1 on: WAYS to do the DEED first in a week of it, COVERED or not. */
  private static int waysToDeed(int lapse, int week) {
    ServedAhead x = under("19:0/98:2/98:2/98:2;" + lapse, PERSON);
    serve(x, 0, 0);
    x.book(0);
    for (int i = 1; i < week; i++) x.next(0);
    x.next(9);
    return x.ways();
  }

  // ---- 22 owed

  private static void owed() {
    edge(22, "owed: no weeks: what he OWES as it begins", () -> {
      due("nothing", begun(DEAR, PERSON).owed(), 0);
      ServedAhead x = busy();
      x.book(3);
      due("8", x.owed(), 8);
    });
    edge(22, "owed: NONE: there are no WAYS", () -> {
      ServedAhead x = begun(DEAR, PERSON);
      x.next(8);
      due("owed()", x.owed(), NONE);
      x.next(17);
      due("owed() of two weeks", x.owed(), NONE);
    });
    edge(22, "owed: the most: 0, if he got nothing", () -> {
      ServedAhead x = begun(DEAR, PERSON);
      for (int i = 1; i <= 5; i++) {
        x.next(0);
        due(i + " weeks", x.owed(), 0);
      }
    });
    edge(22, "owed: the most: TERMS 1 and 9, twice; a BARON's just TERM", () -> {
      for (int kind : new int[] {PERSON, WIDOW, BARON}) {
        int more = kind == BARON ? 1 : 0;
        int times = kind == BARON ? 1 : 2;
        ServedAhead x = begun("13:0/93:1/15:0/57:1;9", kind);
        x.next(3 + more);
        due("TERM 1 or 9", x.owed(), 9 * times);
        x.book(0);
        x.next(5 + more);
        due("TERM 1", x.owed(), times);
        x.next(5 + more);
        due("none may serve", x.owed(), times);
        x.next(12 + 2 * more);
        due("served, then TERM 5", x.owed(), kind == BARON ? 5 : NONE);
      }
    });
    edge(22, "owed: COVERED alone: 0", () -> {
      ServedAhead x = under("19:0/90:2/90:2/90:2;9", PERSON);
      serve(x, 0, 0);
      x.book(0);
      x.next(9);
      due("COVERED or not", x.owed(), 2);
      x.next(18);
      due("the first COVERED, the second not", x.owed(), 2);
    });
    edge(22, "owed: STATE: no BOOK has begun", () -> {
      due("a new object", new ServedAhead().owed(), STATE);
      due("nobody's", under(DEAR, PERSON).owed(), STATE);
      ServedAhead x = begun(DEAR, PERSON);
      read(x, DEAR);
      due("behind another LAW", x.owed(), STATE);
      ServedAhead y = begun(DEAR, PERSON);
      y.image();
      y.restore();
      due("behind restore()", y.owed(), STATE);
    });
    edge(22, "owed: refused, it changes nothing; it was not done", () -> {
      refused("owed()", ServedAhead::new, x -> x.owed(), STATE);
      refused("owed()", () -> under(DEAR, MONK), x -> x.owed(), STATE);
      refused("owed()", BookEdges::worn, x -> x.owed(), STATE);
    });
  }

  private static void fortyTimes() {
    edge(21, "ways: STATE: done 40 times", () -> {
      ServedAhead x = begun(DEAR, PERSON);
      for (int i = 1; i <= 40; i++) due("time " + i, x.ways(), 1);
      due("time 41", x.ways(), STATE);
      due("time 41, owed()", x.owed(), STATE);
      due("how often", x.count(11), 40);
    });
    edge(22, "owed: STATE: done 40 times", () -> {
      ServedAhead x = begun(DEAR, PERSON);
      for (int i = 1; i <= 40; i++) due("time " + i, x.owed(), 0);
      due("time 41", x.owed(), STATE);
      due("time 41, ways()", x.ways(), STATE);
      due("how often", x.count(11), 40);
    });
    edge(22, "owed: STATE: ways(), owed() were done 40 times together", () -> {
      ServedAhead x = begun(DEAR, PERSON);
      for (int i = 1; i <= 20; i++) {
        due("ways " + i, x.ways(), 1);
        due("owed " + i, x.owed(), 0);
      }
      due("ways 21", x.ways(), STATE);
      due("owed 21", x.owed(), STATE);
    });
    edge(21, "ways: 40 times, whatever comes between", () -> {
      ServedAhead x = begun(DEAR, PERSON);
      x.image();
      for (int i = 0; i < 40; i++) x.ways();
      x.book(0);
      due("another BOOK", x.ways(), STATE);
      x.restore();
      x.book(0);
      due("behind restore()", x.ways(), STATE);
      read(x, DEAR);
      x.book(0);
      due("behind another LAW", x.ways(), STATE);
      due("how often", x.count(11), 40);
    });
    edge(21, "ways: refused, it was not done", () -> {
      ServedAhead x = under(DEAR, PERSON);
      for (int i = 0; i < 50; i++) {
        x.ways();
        x.owed();
      }
      due("how often", x.count(11), 0);
      x.book(0);
      due("ways()", x.ways(), 1);
      due("how often then", x.count(11), 1);
    });
    edge(21, "ways: the BOOK goes on, be they done 40 times", () -> {
      ServedAhead x = worn();
      due("next(3)", x.next(3), 3);
      due("book(0)", x.book(0), 3);
    });
  }

  /** Busy, and ways(), owed() were done 40 times. */
  private static ServedAhead worn() {
    ServedAhead x = busy();
    for (int i = 1; i < 40; i++) x.ways();
    return x;
  }

  // ---- 23 years

  private static void years() {
    edge(23, "years: weeks (1 to 60)", () -> {
      ServedAhead x = under(DEAR, PERSON);
      due("0", x.years(0, 7, 3), OUTSIDE);
      due("1", x.years(1, 7, 3), seedBehind(7, 1));
      due("60", x.years(60, 7, 3), seedBehind(7, 60));
      due("61", x.years(61, 7, 3), OUTSIDE);
      due("-1", x.years(-1, 7, 3), OUTSIDE);
      due("MIN", x.years(MIN, 7, 3), OUTSIDE);
      due("MAX", x.years(MAX, 7, 3), OUTSIDE);
    });
    edge(23, "years: seed (0 at least)", () -> {
      ServedAhead x = under(DEAR, PERSON);
      due("-1", x.years(1, -1, 3), OUTSIDE);
      due("MIN", x.years(1, MIN, 3), OUTSIDE);
      due("0", x.years(1, 0, 3), 12345);
      due("1", x.years(1, 1, 3), 1103527590);
      due("MAX", x.years(1, MAX, 3), seedBehind(MAX, 1));
    });
    edge(23, "years: what (0 to 3)", () -> {
      ServedAhead x = under(DEAR, PERSON);
      due("-1", x.years(1, 0, -1), OUTSIDE);
      due("0", x.years(1, 0, 0), 0);
      due("3", x.years(1, 0, 3), 12345);
      due("4", x.years(1, 0, 4), OUTSIDE);
      due("MIN", x.years(1, 0, MIN), OUTSIDE);
      due("MAX", x.years(1, 0, MAX), OUTSIDE);
    });
    edge(23, "years: nobody, or all who are not GONE", () -> {
      ServedAhead x = under(DEAR);
      due("nobody: the SEED", x.years(60, 5, 3), 5);
      due("nobody: got", x.years(60, 5, 0), 0);
      for (int people = 1; people <= 4; people++) {
        x.person(PERSON);
        due(people + ": the SEED", x.years(3, 5, 3), seedBehind(5, 3 * people));
      }
      x.leave(1, 0);
      due("one is GONE: the SEED", x.years(3, 5, 3), seedBehind(5, 9));
    });
    edge(23, "years: what all got so far, also who is GONE", () -> {
      ServedAhead x = under(DEAR, PERSON, PERSON);
      x.act(0, 20);
      x.leave(0, 1);
      x.act(1, 0);
      due("he did an ACT in this week", x.years(1, seedFor(7), 0), 9);
      due("DEEDS done in them", x.years(1, seedFor(7), 2), 0);
      due("OWED", x.years(1, seedFor(7), 1), 0);
    });
  }

  private static void draws() {
    edge(23, "years: a DRAW of 12: 0 to 2: 0 to 2; 3 to 6: 10 to 13; 7 to 10: 20 to 23; 11: none", () -> {
      for (int draw = 0; draw < 12; draw++) {
        ServedAhead x = whoMayAll();
        int seed = seedFor(draw);
        int deed = draw < 3 || draw > 10 ? NONE : (draw - 3) % 4;
        due("draw " + draw + ": got", x.years(1, seed, 0), deed < 0 ? 0 : 1 + 2 * deed);
        due("draw " + draw + ": OWED", x.years(1, seed, 1), draw < 7 || deed < 0 ? 0 : 2 * (deed + 1));
        due("draw " + draw + ": DEEDS", x.years(1, seed, 2), deed < 0 ? 0 : 1);
      }
    });
    edge(23, "years: a DRAW of 0 to 2 serves SORT 0 to 2", () -> {
      for (int sort = 0; sort < 3; sort++) {
        for (int deed = 0; deed < 3; deed++) {
          ServedAhead x = under(DEAR, PERSON);
          due("SORT " + sort + ", then DEED " + deed, x.years(2, seedFor(sort, 3 + deed), 2), sort == deed ? 1 : 0);
        }
        due("SORT " + sort + ", then DEED 3", under(DEAR, PERSON).years(2, seedFor(sort, 6), 2), 1);
      }
    });
    edge(23, "years: who OWES serves by a DRAW of 0 to 2, and MAY nothing else", () -> {
      for (int draw = 0; draw < 12; draw++) {
        ServedAhead x = under(DEAR, PERSON);
        serve(x, 0, 0, 20);
        due("draw " + draw + ": OWED", x.years(1, seedFor(draw), 1), draw < 3 ? 1 : 2);
        due("draw " + draw + ": DEEDS", x.years(1, seedFor(draw), 2), 0);
      }
    });
    edge(23, "years: by number: the first one draws first", () -> {
      ServedAhead x = under(DEAR, PERSON, BARON);
      due("0 serves, 1 does DEED 0", x.years(1, seedFor(0, 7), 0), 10);
      due("0 does DEED 0, 1 serves", x.years(1, seedFor(7, 0), 0), 9);
    });
    edge(23, "years: this week the first: who did an ACT in it MAY none", () -> {
      ServedAhead x = under(DEAR, PERSON);
      x.act(0, 0);
      due("one week", x.years(1, seedFor(7), 2), 0);
      due("the DRAW is made", x.years(1, seedFor(7), 3), seedBehind(seedFor(7), 1));
      due("two weeks", x.years(2, seedFor(7, 7), 2), 1);
    });
    edge(23, "years: a CREDIT lapses in them", () -> {
      ServedAhead x = under("19:0/90:2/90:2/90:2;1", PERSON);
      serve(x, 0, 0);
      due("in the last week in which it counts", x.years(1, seedFor(3), 2), 1);
      due("one week later", x.years(2, seedFor(11, 3), 2), 0);
    });
  }

  /** 0 has four CREDITS of each SORT, the others are GONE; DEED d has TERM d + 1 and WORTH 2 d + 1. */
  private static ServedAhead whoMayAll() {
    ServedAhead x = under("11:0/23:1/35:2/47:012;9", PERSON, MONK, MONK, MONK);
    for (int i = 0; i < 2; i++) {
      for (int sort = 0; sort < 3; sort++) serveAndSell(x, 1 + sort, 0, sort);
      x.week();
    }
    for (int monk = 1; monk < 4; monk++) x.leave(monk, 0);
    for (int act : ACTS) due("may(0, " + act + ")", x.may(0, act), 1);
    return x;
  }

  private static void seeds() {
    edge(23, "years: the SEED: its rest by 2 to the 31, wrapping", () -> {
      ServedAhead x = under(DEAR, PERSON);
      for (int seed : new int[] {2, 3, 65535, 65536, 1 << 30, MAX - 1, MAX}) {
        due("SEED " + seed, x.years(1, seed, 3), seedBehind(seed, 1));
        due("SEED " + seed + ", 60 times", x.years(60, seed, 3), seedBehind(seed, 60));
      }
    });
    edge(23, "years: the same SEED, the same YEARS: nothing is changed", () -> {
      for (int what = 0; what < 4; what++) {
        int asked = what;
        changesNothing("years(60, 7, " + what + ")", EdgeCases::busy, x -> x.years(60, 7, asked));
      }
    });
  }

  private static void yearsRefused() {
    edge(23, "years: STATE: no LAW", () -> {
      ServedAhead x = new ServedAhead();
      for (int what = 0; what < 4; what++) due("years(1, 0, " + what + ")", x.years(1, 0, what), STATE);
      read(x, DEAR);
      due("with one", x.years(1, 0, 0), 0);
    });
    edge(23, "years: OUTSIDE is told ahead of STATE", () -> {
      ServedAhead x = new ServedAhead();
      due("weeks 0", x.years(0, 0, 0), OUTSIDE);
      due("weeks 61", x.years(61, 0, 0), OUTSIDE);
      due("seed -1", x.years(1, -1, 0), OUTSIDE);
      due("what -1", x.years(1, 0, -1), OUTSIDE);
      due("what 4", x.years(60, MAX, 4), OUTSIDE);
    });
    edge(23, "years: refused, it changes nothing", () -> {
      refused("years(61, 0, 0)", EdgeCases::busy, x -> x.years(61, 0, 0), OUTSIDE);
      refused("years(1, -1, 0)", EdgeCases::busy, x -> x.years(1, -1, 0), OUTSIDE);
      refused("years(1, 0, 4)", EdgeCases::busy, x -> x.years(1, 0, 4), OUTSIDE);
      refused("years(1, 0, 0)", ServedAhead::new, x -> x.years(1, 0, 0), STATE);
    });
  }

  private static long seedBehind(long seed, int draws) {
    long then = seed;
    for (int i = 0; i < draws; i++) then = (1103515245L * then + 12345) % 2147483648L;
    return then;
  }

  /** The least SEED whose next DRAWS are these. */
  private static int seedFor(int... draws) {
    for (int seed = 0; seed < 1000000; seed++) {
      long then = seed;
      int right = 0;
      for (int draw : draws) {
        then = seedBehind(then, 1);
        right += then / 65536 % 12 == draw ? 1 : 0;
      }
      if (right == draws.length) return seed;
    }
    throw new IllegalStateException("no SEED draws so");
  }
}
