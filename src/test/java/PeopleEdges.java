// The boundaries of PEOPLE, of what they MAY do and of what they hand on: promises 7 to 15.
public final class PeopleEdges extends EdgeCases {
  /** TERM 1 and WORTH 1 for all, one SORT each, the last one any; LAPSE 9. */
  private static final String EASY = "11:0/11:1/11:2/11:012;9";

  public static void main(String[] args) {
    person();
    about();
    as();
    may();
    needs();
    act();
    serving();
    covered();
    notCovered();
    week();
    sell();
    sellRefused();
    leave();
    leaveRefused();
    amnesty();
    end(7, 8, 9, 10, 11, 12, 13, 14, 15);
  }

  // ---- 7 person

  private static void person() {
    edge(7, "person: OUTSIDE: kind (0 to 4)", () -> {
      ServedAhead x = under(EASY);
      due("person(-1)", x.person(-1), OUTSIDE);
      due("person(0)", x.person(0), 0);
      due("person(4)", x.person(4), 1);
      due("person(5)", x.person(5), OUTSIDE);
      due("person(MIN)", x.person(MIN), OUTSIDE);
      due("person(MAX)", x.person(MAX), OUTSIDE);
      due("PEOPLE", x.count(1), 2);
    });
    edge(7, "person: STATE: no LAW", () -> {
      ServedAhead x = new ServedAhead();
      due("person(0)", x.person(0), STATE);
      put(x, EASY);
      due("a LAW that is not read", x.person(0), STATE);
      x.law();
      due("one that is", x.person(0), 0);
    });
    edge(7, "person: PEOPLE (4 at most, numbered)", () -> {
      ServedAhead x = under(EASY);
      for (int number = 0; number < 4; number++) due("person", x.person(PERSON), number);
      due("a fifth", x.person(PERSON), FULL);
      due("PEOPLE", x.count(1), 4);
    });
    edge(7, "person: who is GONE has a number, too", () -> {
      ServedAhead x = under(EASY, PERSON, PERSON, PERSON, PERSON);
      for (int number = 0; number < 3; number++) x.leave(number, 3);
      due("a fifth", x.person(PERSON), FULL);
      due("PEOPLE", x.count(1), 4);
    });
    edge(7, "person: those who are gone by restore() have none any more", () -> {
      ServedAhead x = under(EASY, PERSON);
      x.image();
      for (int i = 0; i < 3; i++) x.person(MONK);
      x.act(1, 0);
      x.restore();
      due("the next", x.person(THIEF), 1);
      due("he begins with nothing", x.about(1, 3) + x.about(1, 8), 0);
      due("his KIND", x.about(1, 0), THIEF);
      x.person(PERSON);
      due("a fourth", x.person(PERSON), 3);
      due("a fifth", x.person(PERSON), FULL);
    });
    edge(7, "person: OUTSIDE is told ahead of STATE, and of FULL", () -> {
      due("no LAW, 5", new ServedAhead().person(5), OUTSIDE);
      due("no LAW, -1", new ServedAhead().person(-1), OUTSIDE);
      due("full, 5", busy().person(5), OUTSIDE);
      due("full, -1", busy().person(-1), OUTSIDE);
    });
    edge(7, "person: refused, it changes nothing", () -> {
      refused("person(5)", () -> under(EASY, MONK), x -> x.person(5), OUTSIDE);
      refused("person(-1)", EdgeCases::busy, x -> x.person(-1), OUTSIDE);
      refused("person(0)", ServedAhead::new, x -> x.person(0), STATE);
      refused("person(0)", EdgeCases::busy, x -> x.person(0), FULL);
    });
  }

  // ---- 8 about

  private static void about() {
    edge(8, "about: UNKNOWN: a number names nothing", () -> {
      ServedAhead x = under(EASY, PERSON, PERSON);
      due("about(-1, 0)", x.about(-1, 0), UNKNOWN);
      due("about(1, 0)", x.about(1, 0), 0);
      due("about(2, 0)", x.about(2, 0), UNKNOWN);
      due("about(MIN, 0)", x.about(MIN, 0), UNKNOWN);
      due("about(MAX, 0)", x.about(MAX, 0), UNKNOWN);
      due("nobody at all", new ServedAhead().about(0, 0), UNKNOWN);
      due("of four, the fifth", busy().about(4, 0), UNKNOWN);
      due("of four, the last", busy().about(3, 0), PERSON);
    });
    edge(8, "about: who is GONE is told of", () -> {
      ServedAhead x = busy();
      int[] want = {BARON, 4, 0, 0, 0, 0, 0, NONE, 0, 1};
      for (int what = 0; what < 10; what++) due("about(2, " + what + ")", x.about(2, what), want[what]);
    });
    edge(8, "about: OUTSIDE: what (0 to 9)", () -> {
      ServedAhead x = busy();
      due("about(0, -1)", x.about(0, -1), OUTSIDE);
      due("about(0, 0)", x.about(0, 0), WIDOW);
      due("about(0, 9)", x.about(0, 9), 0);
      due("about(0, 10)", x.about(0, 10), OUTSIDE);
      due("about(0, MIN)", x.about(0, MIN), OUTSIDE);
      due("about(0, MAX)", x.about(0, MAX), OUTSIDE);
      due("of one GONE", x.about(2, 10), OUTSIDE);
    });
    edge(8, "about: UNKNOWN is told ahead of OUTSIDE", () -> {
      due("about(4, 10)", busy().about(4, 10), UNKNOWN);
      due("about(-1, -1)", busy().about(-1, -1), UNKNOWN);
    });
    edge(8, "about: 7 the week of the oldest (NONE)", () -> {
      ServedAhead x = under("11:0/11:1/11:2/11:012;1", PERSON);
      due("he has none", x.about(0, 7), NONE);
      x.act(0, 2);
      due("week 0", x.about(0, 7), 0);
      x.week();
      x.act(0, 0);
      due("of two", x.about(0, 7), 0);
      x.week();
      due("behind its LAPSE", x.about(0, 7), 1);
      x.week();
      due("none again", x.about(0, 7), NONE);
    });
    edge(8, "about: refused, and asked, it changes nothing", () -> {
      refused("about(4, 0)", EdgeCases::busy, x -> x.about(4, 0), UNKNOWN);
      refused("about(0, 10)", EdgeCases::busy, x -> x.about(0, 10), OUTSIDE);
      for (int what = 0; what < 10; what++) {
        int asked = what;
        changesNothing("about(1, " + what + ")", EdgeCases::busy, x -> x.about(1, asked));
      }
    });
  }

  // ---- 9 as

  private static void as() {
    edge(9, "as: UNKNOWN: a number names nothing", () -> {
      ServedAhead x = under(EASY, MONK, MONK);
      due("as(-1, 0)", x.as(-1, 0), UNKNOWN);
      due("as(0, 0)", x.as(0, 0), 0);
      due("as(1, 0)", x.as(1, 0), 1);
      due("as(2, 0)", x.as(2, 0), UNKNOWN);
      due("as(MIN, 0)", x.as(MIN, 0), UNKNOWN);
      due("as(MAX, 0)", x.as(MAX, 0), UNKNOWN);
      due("nobody at all", new ServedAhead().as(0, 0), UNKNOWN);
    });
    edge(9, "as: who is GONE is taken as a KIND, too", () -> {
      due("a BARON as a THIEF", busy().as(2, THIEF), 2);
      due("a BARON as a MONK", busy().as(2, MONK), NONE);
    });
    edge(9, "as: OUTSIDE: kind (0 to 4)", () -> {
      ServedAhead x = busy();
      due("as(0, -1)", x.as(0, -1), OUTSIDE);
      due("as(0, 0)", x.as(0, 0), 0);
      due("as(2, 4)", x.as(2, 4), 2);
      due("as(0, 5)", x.as(0, 5), OUTSIDE);
      due("as(0, MIN)", x.as(0, MIN), OUTSIDE);
      due("as(0, MAX)", x.as(0, MAX), OUTSIDE);
    });
    edge(9, "as: UNKNOWN is told ahead of OUTSIDE", () -> {
      due("as(4, 5)", busy().as(4, 5), UNKNOWN);
      due("as(-1, -1)", busy().as(-1, -1), UNKNOWN);
    });
    edge(9, "as: all are PERSONS; a BARON is a THIEF, too; NONE: the cast fails", () -> {
      String[] kinds = {"10000", "11000", "10100", "10010", "10011"};
      for (int kind = 0; kind < 5; kind++) {
        for (int other = 0; other < 5; other++) {
          int want = kinds[kind].charAt(other) == '1' ? 0 : NONE;
          due(kind + " as " + other, under(EASY, kind).as(0, other), want);
        }
      }
      due("a THIEF is no BARON", under(EASY, THIEF).as(0, BARON), NONE);
    });
    edge(9, "as: refused, and asked, it changes nothing", () -> {
      refused("as(4, 0)", EdgeCases::busy, x -> x.as(4, 0), UNKNOWN);
      refused("as(0, 5)", EdgeCases::busy, x -> x.as(0, 5), OUTSIDE);
      refused("as(0, BARON)", EdgeCases::busy, x -> x.as(0, BARON), NONE);
      changesNothing("as(2, THIEF)", EdgeCases::busy, x -> x.as(2, THIEF));
    });
  }

  // ---- 10 may

  private static void may() {
    edge(10, "may: UNKNOWN: act (0 to 2, 10 to 13, 20 to 23)", () -> {
      ServedAhead x = under(EASY, PERSON);
      for (int act = -2; act <= 35; act++) {
        boolean served = act >= 0 && act <= 2, bare = act >= 20 && act <= 23, known = act >= 10 && act <= 13;
        due("may(0, " + act + ")", x.may(0, act), served || bare ? 1 : known ? 0 : UNKNOWN);
      }
      due("may(0, MIN)", x.may(0, MIN), UNKNOWN);
      due("may(0, MAX)", x.may(0, MAX), UNKNOWN);
    });
    edge(10, "may: UNKNOWN: person, also who is GONE", () -> {
      ServedAhead x = busy();
      due("may(-1, 0)", x.may(-1, 0), UNKNOWN);
      due("may(0, 0)", x.may(0, 0), 1);
      due("may(2, 0), GONE", x.may(2, 0), UNKNOWN);
      due("may(3, 0)", x.may(3, 0), 1);
      due("may(4, 0)", x.may(4, 0), UNKNOWN);
      due("may(MIN, 0)", x.may(MIN, 0), UNKNOWN);
      due("may(MAX, 0)", x.may(MAX, 0), UNKNOWN);
      due("nobody at all", new ServedAhead().may(0, 0), UNKNOWN);
      due("neither", x.may(4, 3), UNKNOWN);
    });
    edge(10, "may: he did none in this week", () -> {
      for (int first : new int[] {0, 2, 10, 20}) {
        ServedAhead x = under(EASY, PERSON);
        serve(x, 0, 0, 0);
        x.act(0, first);
        for (int act : ACTS) due(act + " behind " + first, x.may(0, act), 0);
        x.week();
        due("in the next week", x.may(0, 0), 1);
      }
    });
    edge(10, "may: he OWES nothing", () -> {
      ServedAhead x = under("11:0/12:1/13:2/11:012;9", BARON);
      serve(x, 0, 0);
      due("COVERED, OWES 0", x.may(0, 10), 1);
      x.act(0, 20);
      x.week();
      due("OWES", x.about(0, 2), 1);
      for (int i = 0; i < 4; i++) {
        due("COVERED, OWES 1", x.may(0, 10 + i), 0);
        due("not COVERED, OWES 1", x.may(0, 20 + i), 0);
      }
      for (int sort = 0; sort < 3; sort++) due("serves, OWES 1", x.may(0, sort), 1);
      serve(x, 0, 1);
      due("COVERED, OWES 0 again", x.may(0, 10), 1);
      due("not COVERED, OWES 0 again", x.may(0, 20), 1);
    });
    edge(10, "may: refused, and asked, it changes nothing", () -> {
      refused("may(0, 3)", EdgeCases::busy, x -> x.may(0, 3), UNKNOWN);
      refused("may(2, 0)", EdgeCases::busy, x -> x.may(2, 0), UNKNOWN);
      for (int act : ACTS) changesNothing("may(0, " + act + ")", EdgeCases::busy, x -> x.may(0, act));
    });
  }

  private static void needs() {
    for (int kind = 0; kind < 5; kind++) {
      int of = kind;
      edge(10, "may: KIND " + of + " NEEDS TERM; a WIDOW 1 less (1 at least)", () -> {
        for (int term = 1; term <= 9; term++) {
          int needs = of == WIDOW && term > 1 ? term - 1 : term;
          due("TERM " + term + ", one too few", mayWith(of, term, needs - 1), 0);
          due("TERM " + term + ", as many", mayWith(of, term, needs), 1);
          due("TERM " + term + ", one more", mayWith(of, term, needs + 1), 1);
        }
      });
    }
    edge(10, "may: CREDITS of its SORTS alone", () -> {
      ServedAhead x = under("20:0/20:01/20:12/20:012;9", PERSON);
      serve(x, 0, 0, 1);
      int[] want = {0, 1, 0, 1};
      for (int i = 0; i < 4; i++) due("SORTS 0 and 1, DEED " + i, x.may(0, 10 + i), want[i]);
      serve(x, 0, 2);
      due("SORTS 1 and 2 then", x.may(0, 12), 1);
    });
    edge(10, "may: a CREDIT counts in its week", () -> {
      ServedAhead x = under("11:0/11:1/11:2/11:012;1", PERSON, PERSON);
      x.act(1, 0);
      due("ahead of it", x.may(0, 10), 0);
      x.sell(1, 0, 0);
      due("bought in its week", x.may(0, 10), 1);
    });
  }

  /** Whether one of a KIND MAY do a DEED of a TERM, COVERED, with so many CREDITS. */
  private static int mayWith(int kind, int term, int credits) {
    ServedAhead x = under(term + "1:1/90:2/90:2/90:2;9", kind, PERSON);
    for (int i = 0; i < credits; i++) {
      if (i > 0) x.week();
      serveAndSell(x, 1, 0, 1);
    }
    due("CREDITS", x.about(0, 3), credits);
    return x.may(0, 10);
  }

  // ---- 11 act

  private static void act() {
    edge(11, "act: UNKNOWN: person, also who is GONE", () -> {
      ServedAhead x = busy();
      due("act(-1, 0)", x.act(-1, 0), UNKNOWN);
      due("act(2, 0), GONE", x.act(2, 0), UNKNOWN);
      due("act(4, 0)", x.act(4, 0), UNKNOWN);
      due("act(MIN, 0)", x.act(MIN, 0), UNKNOWN);
      due("act(MAX, 0)", x.act(MAX, 0), UNKNOWN);
      due("act(3, 0)", x.act(3, 0), 9);
      due("act(0, 0)", x.act(0, 0), 0);
      due("nobody at all", new ServedAhead().act(0, 0), UNKNOWN);
    });
    edge(11, "act: UNKNOWN: act (0 to 2, 10 to 13, 20 to 23)", () -> {
      ServedAhead x = under(EASY, PERSON);
      for (int act : new int[] {MIN, -1, 3, 9, 14, 19, 24, 30, MAX}) due("act(0, " + act + ")", x.act(0, act), UNKNOWN);
      due("no ACT was done", x.about(0, 8), 0);
      for (int act : new int[] {0, 2, 20, 23}) due("act(0, " + act + ")", under(EASY, PERSON).act(0, act), act / 20);
      for (int deed : new int[] {0, 3}) {
        ServedAhead y = under(EASY, PERSON);
        serve(y, 0, 0);
        due("act(0, " + (10 + deed) + ")", y.act(0, 10 + deed), 1);
      }
    });
    edge(11, "act: STATE: he did one in this week", () -> {
      ServedAhead x = under(EASY, PERSON);
      serve(x, 0, 0, 0);
      due("the first", x.act(0, 10), 1);
      for (int act : ACTS) due("then " + act, x.act(0, act), STATE);
      x.week();
      due("in the next week", x.act(0, 10), 2);
    });
    edge(11, "act: STATE: he OWES 1", () -> {
      ServedAhead x = under("13:0/11:1/11:2/11:012;9", BARON);
      serve(x, 0, 0);
      due("not COVERED", x.act(0, 20), 4);
      x.week();
      due("COVERED", x.act(0, 10), STATE);
      due("not COVERED", x.act(0, 23), STATE);
      due("he serves", x.act(0, 0), 4);
      x.week();
      due("COVERED, OWES 0", x.act(0, 10), 8);
    });
    edge(11, "act: STATE: one CREDIT too few", () -> {
      ServedAhead x = under("31:0/11:1/11:2/11:1;9", PERSON);
      serve(x, 0, 0, 0);
      due("two of three", x.act(0, 10), STATE);
      due("none of one", x.act(0, 11), STATE);
      serve(x, 0, 0);
      due("three", x.act(0, 10), 1);
    });
    edge(11, "act: UNKNOWN is told ahead of STATE", () -> {
      due("no ACT, by one who did one", busy().act(1, 3), UNKNOWN);
      due("no ACT, by one who OWES", busy().act(3, 24), UNKNOWN);
      ServedAhead x = busy();
      x.leave(1, 0);
      due("one GONE who did one", x.act(1, 0), UNKNOWN);
    });
    edge(11, "act: refused, it changes nothing", () -> {
      refused("act(0, 3)", EdgeCases::busy, x -> x.act(0, 3), UNKNOWN);
      refused("act(2, 0)", EdgeCases::busy, x -> x.act(2, 0), UNKNOWN);
      refused("act(0, 12), not covered", EdgeCases::busy, x -> x.act(0, 12), STATE);
      refused("act(1, 13), a second one", EdgeCases::busy, x -> x.act(1, 13), STATE);
      refused("act(1, 0), a second one", EdgeCases::busy, x -> x.act(1, 0), STATE);
      refused("act(3, 20), who OWES", EdgeCases::busy, x -> x.act(3, 20), STATE);
    });
  }

  private static void serving() {
    edge(11, "act: SERVED gives one CREDIT of that SORT and week; of a MONK two", () -> {
      for (int kind = 0; kind < 5; kind++) {
        for (int sort = 0; sort < 3; sort++) {
          ServedAhead x = under(EASY, kind);
          x.week();
          x.act(0, sort);
          due("KIND " + kind, x.about(0, 4 + sort), kind == MONK ? 2 : 1);
          due("all of them", x.about(0, 3), kind == MONK ? 2 : 1);
          due("the week", x.about(0, 7), 1);
        }
      }
    });
    edge(11, "act: 12 CREDITS at most, one a week", () -> {
      ServedAhead x = withCredits(PERSON, 11);
      x.act(0, 2);
      due("a twelfth", x.about(0, 3), 12);
      x.week();
      due("serving then", x.act(0, 2), 0);
      due("twelve still", sortsOf(x, 0), 110001);
      due("it was an ACT", x.about(0, 8), 1);
    });
    edge(11, "act: 12 CREDITS at most, of a MONK's two", () -> {
      for (int had = 10; had <= 12; had++) {
        ServedAhead x = withCredits(MONK, had);
        due("CREDITS", x.about(0, 3), had);
        x.act(0, 2);
        due("behind " + had, x.about(0, 3), 12);
        due("new ones behind " + had, x.about(0, 6), 12 - had);
      }
    });
    edge(11, "act: who OWES gets no CREDIT for serving, and OWES one less", () -> {
      for (int kind : new int[] {MONK, BARON}) {
        ServedAhead x = under(EASY, kind);
        x.act(0, 20);
        x.week();
        int owes = kind == MONK ? 2 : 1;
        due("OWES", x.about(0, 2), owes);
        for (int left = owes - 1; left >= 0; left--) {
          due("serves", x.act(0, 0), kind == MONK ? 1 : 2);
          due("OWES then", x.about(0, 2), left);
          due("CREDITS", x.about(0, 3), 0);
          x.week();
        }
        x.act(0, 0);
        due("OWES nothing: never less", x.about(0, 2), 0);
        due("CREDITS again", x.about(0, 3), kind == MONK ? 2 : 1);
      }
    });
  }

  /** One of a KIND with so many CREDITS of SORT 0 (12 at most), in a week in which he did no ACT. */
  private static ServedAhead withCredits(int kind, int many) {
    ServedAhead x = under(EASY, kind, MONK, PERSON);
    for (int i = 0; i < many / 2; i++) {
      serveAndSell(x, 1, 0, 0);
      x.week();
    }
    if (many % 2 == 1) serveAndSell(x, 2, 0, 0);
    return x;
  }

  private static void covered() {
    edge(11, "act: COVERED: as many CREDITS as he NEEDS are gone, no more", () -> {
      for (int kind : new int[] {PERSON, WIDOW, BARON}) {
        for (int term : new int[] {1, 2, 9}) {
          ServedAhead x = under(term + "9:0/90:2/90:2/90:2;9", kind);
          serveWeeks(x, 0, 0, 9);
          due("GETS", x.act(0, 10), kind == BARON ? 10 : 9);
          int needs = kind == WIDOW && term > 1 ? term - 1 : term;
          due("CREDITS left of 9, TERM " + term, x.about(0, 3), 9 - needs);
          due("OWES", x.about(0, 2), 0);
        }
      }
    });
    edge(11, "act: COVERED: the oldest of these are gone, those of other SORTS stay", () -> {
      ServedAhead x = under("21:02/90:2/90:2/90:2;9", PERSON);
      serve(x, 0, 1, 0, 2, 0);
      x.act(0, 10);
      due("left", sortsOf(x, 0), 10100);
      due("the oldest", x.about(0, 7), 0);
      passWeeks(x, 6);
      due("that of week 0 lapses first", sortsOf(x, 0), 10000);
      passWeeks(x, 2);
      due("it was of week 3: it counts in week 12", sortsOf(x, 0), 10000);
      x.week();
      due("and not in week 13", sortsOf(x, 0), 0);
    });
    edge(11, "act: COVERED: of one week those of the least SORT first", () -> {
      for (int taken = 1; taken <= 3; taken++) {
        ServedAhead x = under(taken + "1:210/90:2/90:2/90:2;9", PERSON, PERSON, PERSON);
        x.act(0, 2);
        serveAndSell(x, 1, 0, 1);
        serveAndSell(x, 2, 0, 0);
        x.week();
        x.act(0, 10);
        due("left behind " + taken, sortsOf(x, 0), new int[] {101, 1, 0}[taken - 1]);
      }
    });
    edge(11, "act: COVERED: an older one of a greater SORT goes ahead of a younger one", () -> {
      ServedAhead x = under("11:012/90:2/90:2/90:2;9", PERSON);
      serve(x, 0, 2, 0);
      x.act(0, 10);
      due("left", sortsOf(x, 0), 10000);
    });
    edge(11, "act: GETS: WORTH, 0 and 9; a THIEF, a BARON 1 more", () -> {
      for (int kind = 0; kind < 5; kind++) {
        int more = kind == THIEF || kind == BARON ? 1 : 0;
        for (int worth : new int[] {0, 9}) {
          ServedAhead x = under("1" + worth + ":0/90:2/90:2/90:2;9", kind);
          serve(x, 0, 0);
          due("COVERED, KIND " + kind, x.act(0, 10), worth + more);
          x.week();
          due("not COVERED, KIND " + kind, x.act(0, 20), 2 * (worth + more));
        }
      }
    });
  }

  private static void notCovered() {
    edge(11, "act: not COVERED: OWES twice its TERM; a BARON just TERM", () -> {
      for (int kind = 0; kind < 5; kind++) {
        for (int term = 1; term <= 9; term++) {
          ServedAhead x = under(term + "1:0/90:2/90:2/90:2;9", kind);
          x.act(0, 20);
          due("KIND " + kind + ", TERM " + term, x.about(0, 2), kind == BARON ? term : 2 * term);
        }
      }
    });
    edge(11, "act: not COVERED: CREDITS stay, be they as many as he NEEDS", () -> {
      ServedAhead x = under(EASY, PERSON);
      serve(x, 0, 0, 1);
      x.act(0, 20);
      due("CREDITS", sortsOf(x, 0), 10100);
      due("OWES", x.about(0, 2), 2);
    });
  }

  // ---- 12 week

  private static void week() {
    edge(12, "week: WEEKS are numbered from 0", () -> {
      ServedAhead x = new ServedAhead();
      due("the first", x.count(3), 0);
      due("the next", x.week(), 1);
      due("the next", x.week(), 2);
      due("it is now", x.count(3), 2);
    });
    edge(12, "week: without a LAW, with nobody", () -> {
      ServedAhead x = new ServedAhead();
      for (int i = 1; i <= 12; i++) due("week()", x.week(), i);
      read(x, EASY);
      x.person(PERSON);
      x.act(0, 0);
      due("a CREDIT of this week", x.about(0, 7), 12);
    });
    edge(12, "week: nobody did an ACT in it yet", () -> {
      ServedAhead x = under(EASY, PERSON, MONK, PERSON, PERSON);
      for (int p = 0; p < 4; p++) x.act(p, 20 * (p % 2));
      x.leave(2, 0);
      due("one GONE did one", x.about(2, 8), 1);
      x.week();
      for (int p = 0; p < 4; p++) due("about(" + p + ", 8)", x.about(p, 8), 0);
    });
    for (int lapse = 1; lapse <= 9; lapse++) {
      int so = lapse;
      edge(12, "week: a CREDIT counts in its week and in so many behind it as LAPSE tells: " + so, () -> {
        ServedAhead x = under("11:0/11:1/11:2/11:012;" + so, PERSON);
        passWeeks(x, 2);
        x.act(0, 1);
        due("in its week", x.about(0, 3), 1);
        for (int behind = 1; behind <= so; behind++) {
          x.week();
          due(behind + " behind", sortsOf(x, 0), 100);
        }
        due("the last in which it covers", x.may(0, 11), 1);
        x.week();
        due("one more", sortsOf(x, 0), 0);
        due("it covers nothing", x.may(0, 11), 0);
        due("all CREDITS", x.count(6), 0);
      });
    }
    edge(12, "week: what one OWES and got stays", () -> {
      ServedAhead x = under(EASY, PERSON);
      x.act(0, 20);
      passWeeks(x, 30);
      due("OWES", x.about(0, 2), 2);
      due("got", x.about(0, 1), 1);
    });
  }

  // ---- 13 sell

  private static void sell() {
    edge(13, "sell: the oldest CREDIT of a SORT", () -> {
      ServedAhead x = under(EASY, MONK, PERSON);
      serve(x, 0, 1, 0, 1, 0);
      due("of SORT 0", x.sell(0, 1, 0), 1);
      due("of SORT 0, of the same week", x.sell(0, 1, 0), 1);
      due("of SORT 0, the next", x.sell(0, 1, 0), 3);
      due("of SORT 1", x.sell(0, 1, 1), 0);
      due("left", sortsOf(x, 0), 10300);
      due("handed on", sortsOf(x, 1), 30100);
      due("the oldest there", x.about(1, 7), 0);
    });
    edge(13, "sell: it goes with its week", () -> {
      ServedAhead x = under("11:0/11:1/11:2/11:012;2", PERSON, PERSON);
      x.act(0, 0);
      passWeeks(x, 2);
      due("in the last week in which it counts", x.sell(0, 1, 0), 0);
      due("it counts", x.about(1, 3), 1);
      x.week();
      due("then it does not", x.about(1, 3), 0);
    });
    edge(13, "sell: it goes ahead of younger ones of another", () -> {
      ServedAhead x = under(EASY, PERSON, PERSON);
      serve(x, 0, 0);
      serve(x, 1, 0);
      x.sell(0, 1, 0);
      due("back: the oldest", x.sell(1, 0, 0), 0);
      due("back: the other one", x.sell(1, 0, 0), 1);
    });
    edge(13, "sell: who has room for it", () -> {
      for (int had = 11; had <= 12; had++) {
        ServedAhead x = withCredits(PERSON, had);
        passWeeks(x, 1);
        x.act(2, 1);
        due("to one who has " + had, x.sell(2, 0, 1), had == 11 ? x.count(3) : FULL);
        due("he has then", x.about(0, 3), 12);
        due("the seller has", x.about(2, 3), had == 11 ? 0 : 1);
      }
    });
    edge(13, "sell: no ACT, for either; who OWES or did one sells and buys", () -> {
      ServedAhead x = under(EASY, PERSON, PERSON);
      serve(x, 0, 0, 0);
      due("neither did an ACT", x.sell(0, 1, 0), 0);
      due("neither did one then", x.about(0, 8) + x.about(1, 8), 0);
      x.act(0, 20);
      x.act(1, 20);
      due("both OWE", x.sell(0, 1, 0), 1);
      due("they OWE as much", x.count(4), 4);
    });
  }

  private static void sellRefused() {
    edge(13, "sell: UNKNOWN: a, b, also who is GONE", () -> {
      for (int wrong : new int[] {MIN, -1, 2, 4, MAX}) {
        due("from " + wrong, busy().sell(wrong, 0, 0), UNKNOWN);
        due("to " + wrong, busy().sell(0, wrong, 0), UNKNOWN);
      }
      due("from 3", busy().sell(3, 0, 1), 0);
      due("to 3", busy().sell(0, 3, 0), 0);
      due("nobody at all", new ServedAhead().sell(0, 1, 0), UNKNOWN);
    });
    edge(13, "sell: UNKNOWN: they are the same", () -> {
      for (int p = 0; p < 4; p++) due("sell(p, p, 1)", busy().sell(p, p, 1), UNKNOWN);
    });
    edge(13, "sell: UNKNOWN: sort (0 to 2)", () -> {
      for (int wrong : new int[] {MIN, -1, 3, 32, MAX}) due("sort " + wrong, busy().sell(1, 0, wrong), UNKNOWN);
      int[] weeks = {1, 2, 0};
      for (int sort = 0; sort < 3; sort++) due("sort " + sort, busy().sell(1, 0, sort), weeks[sort]);
    });
    edge(13, "sell: STATE: a has none that counts", () -> {
      ServedAhead x = under("11:0/11:1/11:2/11:012;1", PERSON, PERSON);
      due("he never had one", x.sell(0, 1, 0), STATE);
      x.act(0, 0);
      due("none of that SORT", x.sell(0, 1, 1), STATE);
      passWeeks(x, 2);
      due("it lapsed", x.sell(0, 1, 0), STATE);
      x.act(0, 0);
      due("one", x.sell(0, 1, 0), 2);
      due("he has none any more", x.sell(0, 1, 0), STATE);
    });
    edge(13, "sell: UNKNOWN ahead of STATE ahead of FULL", () -> {
      due("a has none, b has no room", fullBuyer().sell(2, 0, 0), STATE);
      due("b has no room", fullBuyer().sell(1, 0, 0), FULL);
      due("no SORT, no room", fullBuyer().sell(1, 0, 3), UNKNOWN);
      due("no SORT, none to sell", fullBuyer().sell(2, 1, -1), UNKNOWN);
      due("the same, none to sell", fullBuyer().sell(2, 2, 0), UNKNOWN);
      due("the same, no room", fullBuyer().sell(0, 0, 0), UNKNOWN);
      due("nobody, none to sell", fullBuyer().sell(2, 3, 0), UNKNOWN);
    });
    edge(13, "sell: refused, it changes nothing", () -> {
      refused("sell(0, 0, 0)", EdgeCases::busy, x -> x.sell(0, 0, 0), UNKNOWN);
      refused("sell(0, 2, 0)", EdgeCases::busy, x -> x.sell(0, 2, 0), UNKNOWN);
      refused("sell(2, 0, 0)", EdgeCases::busy, x -> x.sell(2, 0, 0), UNKNOWN);
      refused("sell(0, 1, 3)", EdgeCases::busy, x -> x.sell(0, 1, 3), UNKNOWN);
      refused("sell(0, 1, 2)", EdgeCases::busy, x -> x.sell(0, 1, 2), STATE);
      refused("sell(1, 0, 0)", PeopleEdges::fullBuyer, x -> x.sell(1, 0, 0), FULL);
    });
  }

  /** 0 has twelve of SORT 0, 1 has two of SORT 0 and week 6, 2 has none. */
  private static ServedAhead fullBuyer() {
    ServedAhead x = withCredits(PERSON, 12);
    x.act(1, 0);
    return x;
  }

  // ---- 14 leave

  private static void leave() {
    edge(14, "leave: how many go: none", () -> {
      ServedAhead x = under(EASY, PERSON, PERSON);
      due("leave(0, 1)", x.leave(0, 1), 0);
      due("he is GONE", x.about(0, 9), 1);
      due("the other one is not", x.about(1, 9), 0);
    });
    edge(14, "leave: as far as there is room, the oldest first, the rest are gone", () -> {
      for (int had : new int[] {0, 1, 6, 11, 12}) {
        ServedAhead x = heir(had);
        due("the leaver has", x.about(0, 3), 12);
        due("the heir has", x.about(1, 3), had);
        due("leave(0, 1) to one with " + had, x.leave(0, 1), 12 - had);
        due("the heir has then", sortsOf(x, 1), (12 - had) * 10000 + had * 100);
        due("the leaver has then", x.about(0, 3), 0);
        due("all CREDITS", x.count(6), 12);
      }
    });
    edge(14, "leave: the oldest first", () -> {
      ServedAhead x = under(EASY, PERSON, MONK);
      serve(x, 0, 2, 0, 1);
      serveWeeks(x, 1, 1, 5);
      due("room for two of three", x.leave(0, 1), 2);
      due("the heir has", sortsOf(x, 1), 11001);
    });
    edge(14, "leave: they go with their weeks", () -> {
      ServedAhead x = under("11:0/11:1/11:2/11:012;2", PERSON, PERSON);
      serve(x, 0, 0, 1);
      due("leave(0, 1)", x.leave(0, 1), 2);
      due("in the last week in which both count", x.about(1, 3), 2);
      due("the oldest", x.about(1, 7), 0);
      x.week();
      due("in the next week", sortsOf(x, 1), 100);
      due("the oldest then", x.about(1, 7), 1);
      x.week();
      due("in the one behind that", x.about(1, 3), 0);
    });
    edge(14, "leave: of one week those of the least SORT first", () -> {
      for (int room = 1; room <= 3; room++) {
        ServedAhead x = under(EASY, PERSON, MONK, PERSON, PERSON);
        x.act(0, 2);
        serveAndSell(x, 2, 0, 1);
        serveAndSell(x, 3, 0, 0);
        x.week();
        for (int i = 0; i < (12 - room) / 2; i++) serve(x, 1, 2);
        if (room % 2 == 1) serveAndSell(x, 2, 1, 2);
        due("the heir has", x.about(1, 3), 12 - room);
        due("leave(0, 1)", x.leave(0, 1), room);
        due("SORT 0", x.about(1, 4), 1);
        due("SORT 1", x.about(1, 5), room > 1 ? 1 : 0);
        due("SORT 2", x.about(1, 6), 12 - room + (room > 2 ? 1 : 0));
      }
    });
    edge(14, "leave: he OWES nothing any more, and keeps what he got", () -> {
      ServedAhead x = busy();
      due("OWES", x.about(3, 2), 8);
      due("leave(3, 0)", x.leave(3, 0), 1);
      due("OWES then", x.about(3, 2), 0);
      due("all OWE", x.count(4), 0);
      due("got", x.about(3, 1), 9);
      due("the heir OWES", x.about(0, 2), 0);
      due("the heir got", x.about(0, 1), 0);
    });
    edge(14, "leave: no ACT, for either; who did one leaves, too", () -> {
      ServedAhead x = busy();
      due("leave(1, 0)", x.leave(1, 0), 6);
      due("he did an ACT in this week", x.about(1, 8), 1);
      due("the heir did none", x.about(0, 8), 0);
    });
    edge(14, "leave: all but one, who has nobody to leave to", () -> {
      ServedAhead x = under(EASY, PERSON, PERSON, PERSON, PERSON);
      x.act(0, 0);
      for (int p = 0; p < 3; p++) due("leave", x.leave(p, p + 1), 1);
      for (int p = 0; p < 4; p++) due("the last one", x.leave(3, p), UNKNOWN);
      due("GONE", x.count(2), 3);
      due("what all left", x.about(3, 4), 1);
    });
  }

  /** 0 has twelve of SORT 0, from week 0 on; 1 has so many of SORT 1. */
  private static ServedAhead heir(int many) {
    ServedAhead x = under(EASY, MONK, MONK, PERSON);
    for (int i = 0; i < 6; i++) {
      x.act(0, 0);
      if (i < many / 2) x.act(1, 1);
      x.week();
    }
    if (many % 2 == 1) serveAndSell(x, 2, 1, 1);
    return x;
  }

  private static void leaveRefused() {
    edge(14, "leave: UNKNOWN: a, b, also who is GONE", () -> {
      for (int wrong : new int[] {MIN, -1, 2, 4, MAX}) {
        due("of " + wrong, busy().leave(wrong, 0), UNKNOWN);
        due("to " + wrong, busy().leave(0, wrong), UNKNOWN);
      }
      due("of 3", busy().leave(3, 0), 1);
      due("to 3", busy().leave(0, 3), 2);
      due("nobody at all", new ServedAhead().leave(0, 1), UNKNOWN);
    });
    edge(14, "leave: UNKNOWN: they are the same", () -> {
      for (int p = 0; p < 4; p++) due("leave(p, p)", busy().leave(p, p), UNKNOWN);
    });
    edge(14, "leave: refused, it changes nothing", () -> {
      refused("leave(0, 0)", EdgeCases::busy, x -> x.leave(0, 0), UNKNOWN);
      refused("leave(0, 2)", EdgeCases::busy, x -> x.leave(0, 2), UNKNOWN);
      refused("leave(2, 0)", EdgeCases::busy, x -> x.leave(2, 0), UNKNOWN);
      refused("leave(0, 4)", EdgeCases::busy, x -> x.leave(0, 4), UNKNOWN);
      refused("leave(-1, 0)", EdgeCases::busy, x -> x.leave(-1, 0), UNKNOWN);
    });
  }

  // ---- 15 amnesty

  private static void amnesty() {
    edge(15, "amnesty: nobody, or nobody OWES", () -> {
      due("no LAW", new ServedAhead().amnesty(), 0);
      due("nobody", under(EASY).amnesty(), 0);
      due("nobody OWES", under(EASY, PERSON).amnesty(), 0);
      changesNothing("amnesty()", () -> forgiven(busy()), x -> x.amnesty());
    });
    edge(15, "amnesty: how many weeks all OWED together, the most", () -> {
      ServedAhead x = under("91:0/90:2/90:2/90:2;9", PERSON, WIDOW, MONK, BARON);
      for (int p = 0; p < 4; p++) x.act(p, 20);
      due("amnesty()", x.amnesty(), 18 * 3 + 9);
      for (int p = 0; p < 4; p++) due("OWES", x.about(p, 2), 0);
      due("amnesty() again", x.amnesty(), 0);
    });
    edge(15, "amnesty: who is GONE OWED nothing any more", () -> {
      ServedAhead x = under(EASY, PERSON, PERSON);
      x.act(0, 20);
      x.act(1, 20);
      x.leave(0, 1);
      due("amnesty()", x.amnesty(), 2);
    });
    edge(15, "amnesty: the ACT was done, and what he got stays", () -> {
      ServedAhead x = under(EASY, PERSON);
      serve(x, 0, 0);
      x.act(0, 20);
      x.amnesty();
      due("did an ACT", x.about(0, 8), 1);
      due("got", x.about(0, 1), 1);
      due("CREDITS", x.about(0, 3), 1);
      due("MAY", x.may(0, 10), 0);
      x.week();
      due("MAY in the next week", x.may(0, 10), 1);
    });
  }

  private static ServedAhead forgiven(ServedAhead x) {
    x.amnesty();
    return x;
  }
}
