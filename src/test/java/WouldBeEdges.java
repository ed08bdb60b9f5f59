// The boundaries of what would be: GAIN, SOON and KEPT, promises 16 to 18.
public final class WouldBeEdges extends EdgeCases {

  public static void main(String[] args) {
    gainWeeks();
    gainByLaw();
    gainFirstAct();
    gainRefused();
    soonByLapse();
    soonByRoom();
    soonFrom();
    soonRefused();
    kept();
    keptWhen();
    keptRefused();
    end(16, 17, 18);
  }

  /** A LAW with one DEED within reach, of SORT 0. */
  private static String oneDeed(int term, int worth, int lapse) {
    return term + "" + worth + ":0/" + FAR + "/" + FAR + "/" + FAR + ";" + lapse;
  }

  // ---- 16 gain

  private static void gainWeeks() {
    edge(16, "gain: weeks (0 to 6)", () -> {
      ServedAhead x = under(oneDeed(5, 9, 9), PERSON);
      due("-1", x.gain(0, -1, 0), OUTSIDE);
      due("0", x.gain(0, 0, 0), 0);
      due("5: one week too few", x.gain(0, 5, 0), 0);
      due("6", x.gain(0, 6, 0), 9);
      due("7", x.gain(0, 7, 0), OUTSIDE);
      due("MIN", x.gain(0, MIN, 0), OUTSIDE);
      due("MAX", x.gain(0, MAX, 0), OUTSIDE);
    });
    edge(16, "gain: six weeks are not enough for a TERM of 6", () -> {
      due("6", under(oneDeed(6, 9, 9), PERSON).gain(0, 6, 0), 0);
      due("6, a WIDOW", under(oneDeed(6, 9, 9), WIDOW).gain(0, 6, 0), 9);
      due("6, a MONK", under(oneDeed(9, 9, 9), MONK).gain(0, 6, 0), 9);
    });
    edge(16, "gain: what (0, 1)", () -> {
      ServedAhead x = under(oneDeed(5, 9, 9), PERSON);
      due("-1", x.gain(0, 6, -1), OUTSIDE);
      due("0", x.gain(0, 6, 0), 9);
      due("1", x.gain(0, 6, 1), 0);
      due("2", x.gain(0, 6, 2), OUTSIDE);
      due("MIN", x.gain(0, 6, MIN), OUTSIDE);
      due("MAX", x.gain(0, 6, MAX), OUTSIDE);
    });
    edge(16, "gain: 0 weeks: there is no week", () -> {
      ServedAhead x = under(oneDeed(1, 9, 9), PERSON);
      serve(x, 0, 0);
      due("how much", x.gain(0, 0, 0), 0);
      due("the first ACT", x.gain(0, 0, 1), 9);
      due("one week: how much", x.gain(0, 1, 0), 9);
      due("one week: the first ACT", x.gain(0, 1, 1), 10);
    });
    edge(16, "gain: if he did an ACT, as many less by one from the next week on", () -> {
      ServedAhead x = under(oneDeed(4, 7, 9), PERSON);
      due("five weeks", x.gain(0, 5, 0), 7);
      x.act(0, 1);
      due("five: four are left", x.gain(0, 5, 0), 0);
      due("six: five are left", x.gain(0, 6, 0), 7);
      due("six: the first ACT", x.gain(0, 6, 1), 0);
    });
    edge(16, "gain: if he did an ACT, and there was one week or none", () -> {
      ServedAhead x = under(oneDeed(1, 7, 9), PERSON);
      serve(x, 0, 0);
      x.act(0, 0);
      for (int weeks = 0; weeks <= 1; weeks++) {
        due(weeks + ": how much", x.gain(0, weeks, 0), 0);
        due(weeks + ": the first ACT", x.gain(0, weeks, 1), 9);
      }
      due("two: how much", x.gain(0, 2, 0), 7);
      due("two: the first ACT", x.gain(0, 2, 1), 10);
    });
  }

  private static void gainByLaw() {
    edge(16, "gain: a CREDIT that lapses ahead of the DEED", () -> {
      due("TERM 1, LAPSE 1", under(oneDeed(1, 4, 1), PERSON).gain(0, 6, 0), 12);
      due("TERM 2, LAPSE 1", under(oneDeed(2, 4, 1), PERSON).gain(0, 6, 0), 0);
      due("TERM 2, LAPSE 2", under(oneDeed(2, 4, 2), PERSON).gain(0, 6, 0), 8);
      due("TERM 3, LAPSE 2", under(oneDeed(3, 4, 2), PERSON).gain(0, 6, 0), 0);
      due("TERM 3, LAPSE 2, a WIDOW", under(oneDeed(3, 4, 2), WIDOW).gain(0, 6, 0), 8);
    });
    edge(16, "gain: what he holds, in the last week in which it counts", () -> {
      ServedAhead x = under(oneDeed(2, 5, 2), PERSON);
      serve(x, 0, 0, 1);
      due("in week 2 the first still counts, but he lacks one", x.gain(0, 1, 0), 0);
      due("to serve, and it is gone", x.gain(0, 2, 0), 0);
      x = under(oneDeed(2, 5, 3), PERSON);
      serve(x, 0, 0, 1);
      due("LAPSE 3: to serve, and it is not", x.gain(0, 2, 0), 5);
    });
    edge(16, "gain: what he holds, if he did an ACT: in the next week", () -> {
      for (int lapse = 1; lapse <= 3; lapse++) {
        ServedAhead x = under(oneDeed(1, 5, lapse), PERSON);
        serve(x, 0, 0);
        x.act(0, 1);
        due("LAPSE " + lapse + ", in week 2", x.gain(0, 2, 0), lapse < 2 ? 0 : 5);
        due("LAPSE " + lapse + ", its first ACT", x.gain(0, 2, 1), lapse < 2 ? 0 : 10);
        due("LAPSE " + lapse + ", in weeks 2 and 3", x.gain(0, 3, 0), 5);
        due("LAPSE " + lapse + ", their first ACT", x.gain(0, 3, 1), 0);
      }
    });
    edge(16, "gain: who OWES serves first", () -> {
      String law = "49:0/59:0/19:0/90:2;9";
      ServedAhead four = under(law, BARON);
      four.act(0, 20);
      four.week();
      due("OWES 4, five weeks", four.gain(0, 5, 0), 0);
      due("OWES 4, six weeks", four.gain(0, 6, 0), 10);
      ServedAhead five = under(law, BARON);
      five.act(0, 21);
      five.week();
      due("OWES 5, six weeks", five.gain(0, 6, 0), 0);
      ServedAhead rich = under(law, BARON);
      serve(rich, 0, 0);
      rich.act(0, 21);
      rich.week();
      due("OWES 5, six weeks, with a CREDIT", rich.gain(0, 6, 0), 10);
      due("OWES 5, five weeks, with a CREDIT", rich.gain(0, 5, 0), 0);
    });
    edge(16, "gain: DEEDS that are not COVERED are not of it", () -> {
      due("two weeks", under(oneDeed(2, 9, 9), PERSON).gain(0, 2, 0), 0);
    });
    edge(16, "gain: WORTH 0, of a THIEF 1", () -> {
      due("a PERSON", under(oneDeed(1, 0, 9), PERSON).gain(0, 6, 0), 0);
      due("a THIEF", under(oneDeed(1, 0, 9), THIEF).gain(0, 6, 0), 3);
      due("a BARON", under(oneDeed(1, 0, 9), BARON).gain(0, 6, 0), 3);
    });
    edge(16, "gain: the most: a DEED in each of six weeks", () -> {
      for (int kind : new int[] {PERSON, BARON}) {
        ServedAhead x = under(oneDeed(1, 9, 9), kind);
        serveWeeks(x, 0, 0, 5);
        due("five CREDITS, KIND " + kind, x.gain(0, 6, 0), kind == BARON ? 50 : 45);
        serve(x, 0, 0);
        due("six CREDITS, KIND " + kind, x.gain(0, 6, 0), kind == BARON ? 60 : 54);
        due("the first ACT", x.gain(0, 6, 1), 10);
      }
    });
    edge(16, "gain: 12 CREDITS at most: no room until the oldest lapse", () -> {
      ServedAhead x = under("99:0/19:1/90:0/90:0;9", MONK);
      serveWeeks(x, 0, 2, 6);
      due("no room for any", x.about(0, 3), 12);
      due("nothing to be gained", x.gain(0, 3, 0), 0);
      passWeeks(x, 2);
      due("week 8: two lapse behind week 9", x.gain(0, 3, 0), 0);
      due("week 8: served in week 10, done in week 11", x.gain(0, 4, 0), 9);
    });
  }

  private static void gainFirstAct() {
    edge(16, "gain: of all ACTS that begin such a row the least", () -> {
      due("any does", under(oneDeed(9, 9, 9), PERSON).gain(0, 6, 1), 0);
      due("SORT 1 alone", under("19:1/90:2/90:2/90:2;9", PERSON).gain(0, 2, 1), 1);
      due("SORT 2 alone", under("19:2/90:1/90:1/90:1;9", PERSON).gain(0, 2, 1), 2);
      due("SORTS 1 and 2", under("19:21/90:0/90:0/90:0;9", PERSON).gain(0, 2, 1), 1);
    });
    edge(16, "gain: nothing is to be gained: the least of all ACTS", () -> {
      ServedAhead x = under(oneDeed(9, 9, 9), PERSON);
      for (int weeks = 1; weeks <= 6; weeks++) {
        due(weeks + ": how much", x.gain(0, weeks, 0), 0);
        due(weeks + ": the first ACT", x.gain(0, weeks, 1), 0);
      }
    });
    edge(16, "gain: a DEED alone begins it: 10 to 13", () -> {
      for (int deed = 0; deed < 4; deed++) {
        StringBuilder law = new StringBuilder();
        for (int d = 0; d < 4; d++) law.append(d == deed ? "19:0" : "90:2").append(d < 3 ? '/' : ';');
        ServedAhead x = under(law + "1", PERSON);
        serve(x, 0, 0);
        due("DEED " + deed, x.gain(0, 1, 1), 10 + deed);
      }
    });
    edge(16, "gain: 9, if none of them begins one", () -> {
      ServedAhead x = waiting();
      due("how much", x.gain(0, 5, 0), 5);
      due("a week without an ACT begins it", x.gain(0, 5, 1), 9);
      due("a week less: any does", x.gain(0, 4, 1), 0);
      due("a week more: any does", x.gain(0, 6, 1), 0);
    });
  }

  /** Eleven CREDITS leave room for one: served now, it lapses too soon; served next week, it does not. */
  private static ServedAhead waiting() {
    ServedAhead x = under("90:2/35:1/90:2/90:2;3", PERSON, MONK, MONK, MONK);
    for (int monk = 1; monk <= 2; monk++) serveAndSell(x, monk, 0, 0);
    x.week();
    x.act(0, 0);
    for (int monk = 1; monk <= 3; monk++) serveAndSell(x, monk, 0, 0);
    x.week();
    return x;
  }

  private static void gainRefused() {
    edge(16, "gain: UNKNOWN: person, also who is GONE", () -> {
      ServedAhead x = busy();
      for (int wrong : new int[] {MIN, -1, 2, 4, MAX}) due("of " + wrong, x.gain(wrong, 1, 0), UNKNOWN);
      due("of 0", x.gain(0, 1, 0), 5);
      due("of 3", x.gain(3, 1, 0), 0);
      due("nobody at all", new ServedAhead().gain(0, 1, 0), UNKNOWN);
    });
    edge(16, "gain: STATE: it was done 60 times", () -> {
      ServedAhead x = under(oneDeed(1, 9, 9), PERSON);
      for (int i = 1; i <= 60; i++) due("time " + i, x.gain(0, 2, i % 2), i % 2 == 0 ? 9 : 0);
      due("how often", x.count(10), 60);
      due("time 61, how much", x.gain(0, 2, 0), STATE);
      due("time 61, the first ACT", x.gain(0, 2, 1), STATE);
      due("time 61, no weeks", x.gain(0, 0, 0), STATE);
      due("how often then", x.count(10), 60);
    });
    edge(16, "gain: 60 times, whatever comes between", () -> {
      ServedAhead x = under(oneDeed(1, 9, 9), PERSON);
      x.image();
      for (int i = 0; i < 60; i++) x.gain(0, 0, 0);
      x.restore();
      due("behind restore()", x.gain(0, 1, 0), STATE);
      read(x, oneDeed(1, 9, 9));
      due("behind another LAW", x.gain(0, 1, 0), STATE);
      x.week();
      due("in another week", x.gain(0, 1, 0), STATE);
    });
    edge(16, "gain: refused, it was not done", () -> {
      ServedAhead x = under(oneDeed(1, 9, 9), PERSON);
      for (int i = 0; i < 70; i++) x.gain(i % 2, 7 - 6 * (i % 2), 0);
      due("how often", x.count(10), 0);
      due("gain", x.gain(0, 2, 0), 9);
    });
    edge(16, "gain: UNKNOWN ahead of OUTSIDE ahead of STATE", () -> {
      due("UNKNOWN and OUTSIDE", busy().gain(4, 7, 0), UNKNOWN);
      due("UNKNOWN and OUTSIDE, GONE", busy().gain(2, 1, 2), UNKNOWN);
      due("all three", worn().gain(4, -1, -1), UNKNOWN);
      due("UNKNOWN and STATE", worn().gain(-1, 1, 0), UNKNOWN);
      due("OUTSIDE and STATE, weeks", worn().gain(0, 7, 0), OUTSIDE);
      due("OUTSIDE and STATE, what", worn().gain(0, 1, 2), OUTSIDE);
      due("STATE", worn().gain(0, 1, 0), STATE);
    });
    edge(16, "gain: refused, it changes nothing", () -> {
      refused("gain(2, 1, 0)", EdgeCases::busy, x -> x.gain(2, 1, 0), UNKNOWN);
      refused("gain(0, 7, 0)", EdgeCases::busy, x -> x.gain(0, 7, 0), OUTSIDE);
      refused("gain(0, 1, 2)", EdgeCases::busy, x -> x.gain(0, 1, 2), OUTSIDE);
      refused("gain(0, 1, 0)", WouldBeEdges::worn, x -> x.gain(0, 1, 0), STATE);
    });
    edge(16, "gain: done, it changes but how often it was done", () -> {
      ServedAhead x = under("23:0/35:01/49:2/10:012;3", PERSON, MONK);
      serve(x, 1, 0, 2);
      x.act(0, 1);
      ServedAhead y = under("23:0/35:01/49:2/10:012;3", PERSON, MONK);
      serve(y, 1, 0, 2);
      y.act(0, 1);
      for (int i = 0; i < 8; i++) x.gain(i % 2, 6, 0);
      for (int i = 0; i < 8; i++) y.gain(0, 0, 0);
      due("all told", x.digest(), y.digest());
      due("years", x.years(20, 5, 0), y.years(20, 5, 0));
    });
  }

  /** Busy, and gain() was done 60 times. */
  private static ServedAhead worn() {
    ServedAhead x = busy();
    for (int i = 1; i < 60; i++) x.gain(0, 0, 0);
    return x;
  }

  // ---- 17 soon

  private static void soonByLapse() {
    edge(17, "soon: the fewest weeks (0 to 9), the most of them", () -> {
      for (int term = 1; term <= 9; term++) due("TERM " + term, under(oneDeed(term, 0, 9), PERSON).soon(0, 0), term);
    });
    for (int lapse = 1; lapse <= 8; lapse++) {
      int so = lapse;
      edge(17, "soon: none, if the first lapses ahead of the last: LAPSE " + so, () -> {
        due("TERM as LAPSE", under(oneDeed(so, 0, so), PERSON).soon(0, 0), so);
        due("one more", under(oneDeed(so + 1, 0, so), PERSON).soon(0, 0), NONE);
        due("one more, a WIDOW", under(oneDeed(so + 1, 0, so), WIDOW).soon(0, 0), so);
        if (so < 8) due("two more, a WIDOW", under(oneDeed(so + 2, 0, so), WIDOW).soon(0, 0), NONE);
      });
    }
    edge(17, "soon: a MONK's two a week", () -> {
      for (int term = 1; term <= 9; term++) due("TERM " + term, under(oneDeed(term, 0, 9), MONK).soon(0, 0), (term + 1) / 2);
      due("TERM 8, LAPSE 4", under(oneDeed(8, 0, 4), MONK).soon(0, 0), 4);
      due("TERM 9, LAPSE 4", under(oneDeed(9, 0, 4), MONK).soon(0, 0), NONE);
      due("TERM 9, LAPSE 5", under(oneDeed(9, 0, 5), MONK).soon(0, 0), 5);
    });
    edge(17, "soon: a WIDOW's 1 at least", () -> {
      due("TERM 1", under(oneDeed(1, 0, 9), WIDOW).soon(0, 0), 1);
      due("TERM 2", under(oneDeed(2, 0, 9), WIDOW).soon(0, 0), 1);
      due("TERM 9", under(oneDeed(9, 0, 9), WIDOW).soon(0, 0), 8);
    });
    edge(17, "soon: a SORT that covers it", () -> {
      for (int sort = 0; sort < 3; sort++) {
        ServedAhead x = under("20:" + sort + "/90:0/90:1/90:2;9", PERSON);
        due("SORT " + sort, x.soon(0, 0), 2);
        serve(x, 0, sort);
        due("one of it served", x.soon(0, 0), 1);
        serve(x, 0, (sort + 1) % 3);
        due("one of another served", x.soon(0, 0), 1);
      }
    });
  }

  private static void soonByRoom() {
    edge(17, "soon: 9 weeks, if there is no room until the oldest lapse", () -> {
      ServedAhead x = full();
      x.week();
      due("full since week 0, in week 2", x.soon(0, 0), 9);
      x.week();
      due("in week 3", x.soon(0, 0), 8);
    });
    edge(17, "soon: none, if it took 10 weeks", () -> {
      due("full since week 0, in week 1", full().soon(0, 0), NONE);
    });
    edge(17, "soon: none, if he did an ACT: from the next week on", () -> {
      ServedAhead x = full();
      x.act(0, 1);
      due("week 1, behind an ACT: as in week 2", x.soon(0, 0), 9);
    });
  }

  /** Week 1, and no ACT in it: twelve CREDITS of SORT 1, seven of week 0; DEED 0 wants one of SORT 0. */
  private static ServedAhead full() {
    ServedAhead x = under(oneDeed(1, 0, 9), PERSON, MONK, MONK, MONK);
    x.act(0, 1);
    for (int monk = 1; monk <= 3; monk++) serveAndSell(x, monk, 0, 1);
    x.week();
    for (int monk = 1; monk <= 3; monk++) serveAndSell(x, monk, 0, 1);
    due("of SORT 1", sortsOf(x, 0), 1200);
    due("no ACT", x.about(0, 8), 0);
    return x;
  }

  private static void soonFrom() {
    edge(17, "soon: 0: in this week", () -> {
      ServedAhead x = under(oneDeed(2, 0, 2), PERSON);
      serve(x, 0, 0);
      due("one of two", x.soon(0, 0), 1);
      serve(x, 0, 0);
      due("two of two", x.soon(0, 0), 0);
      x.week();
      due("one has lapsed", x.soon(0, 0), 2);
    });
    edge(17, "soon: 0: in the next week, if he did an ACT in this one", () -> {
      ServedAhead x = under(oneDeed(2, 0, 2), PERSON);
      serve(x, 0, 0);
      x.act(0, 0);
      due("two of two", x.soon(0, 0), 0);
      x.week();
      x.act(0, 1);
      due("one lapses ahead of the next week, and the other one ahead of the second", x.soon(0, 0), 2);
    });
    edge(17, "soon: from the next week on, if he did an ACT in this one", () -> {
      ServedAhead x = under(oneDeed(2, 0, 2), PERSON);
      due("ahead of it", x.soon(0, 0), 2);
      x.act(0, 1);
      due("behind it", x.soon(0, 0), 2);
      ServedAhead y = under(oneDeed(3, 0, 3), PERSON);
      y.act(0, 0);
      due("its CREDIT helps", y.soon(0, 0), 2);
      y.week();
      due("in the next week, too", y.soon(0, 0), 2);
      y.act(0, 1);
      due("but not in the one behind that", y.soon(0, 0), 3);
    });
    edge(17, "soon: it changes nothing", () -> {
      for (int p = 0; p < 2; p++) {
        int of = p;
        for (int deed = 0; deed < 4; deed++) {
          int its = deed;
          changesNothing("soon(" + of + ", " + its + ")", EdgeCases::busy, x -> x.soon(of, its));
        }
      }
    });
  }

  private static void soonRefused() {
    edge(17, "soon: UNKNOWN: person, also who is GONE", () -> {
      ServedAhead x = busy();
      for (int wrong : new int[] {MIN, -1, 2, 4, MAX}) due("of " + wrong, x.soon(wrong, 0), UNKNOWN);
      due("of 0", x.soon(0, 0), 0);
      due("of 1", x.soon(1, 0), 0);
      due("nobody at all", new ServedAhead().soon(0, 0), UNKNOWN);
    });
    edge(17, "soon: UNKNOWN: deed (0 to 3)", () -> {
      ServedAhead x = busy();
      for (int wrong : new int[] {MIN, -1, 4, MAX}) due("deed " + wrong, x.soon(0, wrong), UNKNOWN);
      due("deed 0", x.soon(0, 0), 0);
      due("deed 3", x.soon(0, 3), 0);
    });
    edge(17, "soon: STATE: he OWES weeks, one of them", () -> {
      ServedAhead x = under("10:0/90:2/90:2/90:2;9", BARON);
      x.act(0, 20);
      due("OWES", x.about(0, 2), 1);
      due("soon(0, 0)", x.soon(0, 0), STATE);
      x.week();
      due("in the next week", x.soon(0, 0), STATE);
      x.act(0, 0);
      due("OWES none", x.soon(0, 0), 1);
    });
    edge(17, "soon: UNKNOWN is told ahead of STATE", () -> {
      due("no DEED, who OWES", busy().soon(3, 4), UNKNOWN);
      due("no DEED, who OWES, below", busy().soon(3, -1), UNKNOWN);
      due("who OWES", busy().soon(3, 3), STATE);
    });
    edge(17, "soon: refused, it changes nothing", () -> {
      refused("soon(2, 0)", EdgeCases::busy, x -> x.soon(2, 0), UNKNOWN);
      refused("soon(0, 4)", EdgeCases::busy, x -> x.soon(0, 4), UNKNOWN);
      refused("soon(3, 0)", EdgeCases::busy, x -> x.soon(3, 0), STATE);
    });
  }

  // ---- 18 kept

  private static void kept() {
    edge(18, "kept: 1, if there is nobody, or nobody who is not GONE could", () -> {
      ServedAhead x = under(oneDeed(5, 0, 9));
      due("nobody", x.kept(0), 1);
      x.person(PERSON);
      x.person(WIDOW);
      due("nobody with a CREDIT", x.kept(0), 1);
      x.act(0, 1);
      due("none of its SORT", x.kept(0), 1);
    });
    edge(18, "kept: the least TERM (1 to 9) of a PERSON; none", () -> {
      for (int credits = 0; credits <= 10; credits++) {
        due(credits + " CREDITS", keptWith(PERSON, credits), credits < 9 ? credits + 1 : NONE);
      }
    });
    edge(18, "kept: the least TERM (1 to 9) of a WIDOW; none", () -> {
      due("0 CREDITS", keptWith(WIDOW, 0), 1);
      for (int credits = 1; credits <= 9; credits++) {
        due(credits + " CREDITS", keptWith(WIDOW, credits), credits < 8 ? credits + 2 : NONE);
      }
    });
    edge(18, "kept: nobody could: the one who has most", () -> {
      ServedAhead x = under(oneDeed(5, 0, 9), PERSON, MONK, WIDOW);
      for (int p = 0; p < 3; p++) x.act(p, 0);
      due("1, 2 and 1 of a WIDOW", x.kept(0), 3);
      x.leave(1, 0);
      due("3 and 1 of a WIDOW", x.kept(0), 4);
      x.leave(0, 2);
      due("4 of a WIDOW", x.kept(0), 6);
    });
    edge(18, "kept: not by its own TERM", () -> {
      for (int term = 1; term <= 9; term++) {
        ServedAhead x = under(oneDeed(term, 0, 9), PERSON);
        x.act(0, 0);
        due("TERM " + term, x.kept(0), 2);
        due("it stays", x.deed(0, 0), term);
      }
    });
  }

  private static int keptWith(int kind, int credits) {
    ServedAhead x = under(oneDeed(5, 0, 9), kind, PERSON);
    for (int i = 0; i < credits; i++) {
      if (i > 0) x.week();
      serveAndSell(x, 1, 0, 0);
    }
    due("CREDITS", x.about(0, 3), credits);
    return x.kept(0);
  }

  private static void keptWhen() {
    edge(18, "kept: in this week, or the next one, if he did an ACT in this one", () -> {
      ServedAhead x = under(oneDeed(5, 0, 2), PERSON, PERSON);
      x.act(0, 0);
      x.act(1, 0);
      passWeeks(x, 2);
      due("the last week in which they count", x.kept(0), 2);
      x.act(0, 1);
      due("one did an ACT, the other one not", x.kept(0), 2);
      x.act(1, 1);
      due("both did", x.kept(0), 1);
    });
    edge(18, "kept: who OWES 1 could not", () -> {
      ServedAhead x = under(oneDeed(1, 0, 9), BARON);
      serve(x, 0, 0);
      due("OWES 0", x.kept(0), 2);
      x.act(0, 20);
      due("OWES 1", x.kept(0), 1);
      x.week();
      due("OWES 1, in the next week", x.kept(0), 1);
      x.act(0, 0);
      due("OWES 0 again", x.kept(0), 2);
    });
    edge(18, "kept: who is GONE could not", () -> {
      ServedAhead x = under(oneDeed(1, 0, 9), PERSON, BARON);
      x.act(0, 0);
      x.act(1, 20);
      due("one could", x.kept(0), 2);
      x.leave(0, 1);
      due("it went to one who OWES", x.kept(0), 1);
      x.amnesty();
      due("who OWES nothing any more", x.kept(0), 2);
    });
    edge(18, "kept: it changes nothing", () -> {
      for (int deed = 0; deed < 4; deed++) {
        int its = deed;
        changesNothing("kept(" + its + ")", EdgeCases::busy, x -> x.kept(its));
      }
    });
  }

  private static void keptRefused() {
    edge(18, "kept: UNKNOWN: deed (0 to 3)", () -> {
      ServedAhead x = busy();
      for (int wrong : new int[] {MIN, -1, 4, MAX}) due("kept(" + wrong + ")", x.kept(wrong), UNKNOWN);
      due("kept(0)", x.kept(0), 3);
      due("kept(3)", x.kept(3), 7);
    });
    edge(18, "kept: STATE: no LAW", () -> {
      ServedAhead x = new ServedAhead();
      for (int deed = 0; deed < 4; deed++) due("kept(" + deed + ")", x.kept(deed), STATE);
      read(x, oneDeed(1, 0, 9));
      due("with one", x.kept(0), 1);
    });
    edge(18, "kept: UNKNOWN is told ahead of STATE", () -> {
      due("kept(-1)", new ServedAhead().kept(-1), UNKNOWN);
      due("kept(4)", new ServedAhead().kept(4), UNKNOWN);
    });
    edge(18, "kept: refused, it changes nothing", () -> {
      refused("kept(4)", EdgeCases::busy, x -> x.kept(4), UNKNOWN);
      refused("kept(0)", ServedAhead::new, x -> x.kept(0), STATE);
    });
  }
}
