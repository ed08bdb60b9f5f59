// Each promise of the document in turn: ordinary inputs, its edges, wrong inputs.
public final class PromisesTest {
  private static final int NONE = -1, UNKNOWN = -101, OUTSIDE = -102, STATE = -103, FULL = -104;
  /** TERMS 2, 3, 4, 1; WORTHS 3, 5, 9, 0; LAPSE 3. */
  private static final String LAW = "23:0/35:01/49:2/10:012;3";
  private static int promise = 0;
  private static int wrong = 0;
  private static int asked = 0;

  private static void due(String what, long got, long want) {
    asked++;
    if (got != want) {
      wrong++;
      System.out.println("promise " + promise + ": " + what + " answered " + got + ", due is " + want);
    }
  }

  private static void put(ServedAhead x, String text) {
    for (int i = 0; i < text.length(); i++) x.letter(text.charAt(i));
  }

  private static ServedAhead under(String law, int... kinds) {
    ServedAhead x = new ServedAhead();
    put(x, law);
    due("law " + law, x.law() > 0 ? 1 : 0, 1);
    for (int kind : kinds) x.person(kind);
    return x;
  }

  private static int faultOf(String text) {
    ServedAhead x = new ServedAhead();
    put(x, text);
    return x.fault();
  }

  /** Serves once a week; ends in the week behind the last one. */
  private static void serve(ServedAhead x, int person, int... sorts) {
    for (int sort : sorts) {
      x.act(person, sort);
      x.week();
    }
  }

  private static long hash(long... numbers) {
    long h = 733;
    for (long n : numbers) h = 31 * h + n;
    return h;
  }

  public static void main(String[] args) {
    Runnable[] all = {PromisesTest::p1, PromisesTest::p2, PromisesTest::p3, PromisesTest::p4,
        PromisesTest::p5, PromisesTest::p6, PromisesTest::p7, PromisesTest::p8, PromisesTest::p9,
        PromisesTest::p10, PromisesTest::p11, PromisesTest::p12, PromisesTest::p13,
        PromisesTest::p14, PromisesTest::p15, PromisesTest::p16, PromisesTest::p17,
        PromisesTest::p18, PromisesTest::p19, PromisesTest::p20, PromisesTest::p21,
        PromisesTest::p22, PromisesTest::p23, PromisesTest::p24, PromisesTest::p25,
        PromisesTest::p26, PromisesTest::p27};
    for (Runnable one : all) {
      promise++;
      one.run();
    }
    System.out.println(promise + " promises, " + asked + " answers asked, " + wrong + " wrong");
    if (wrong != 0) System.exit(1);
  }

  // A new object
  private static void p1() {
    ServedAhead x = new ServedAhead();
    for (int what = 0; what <= 11; what++) due("count(" + what + ")", x.count(what), 0);
    due("deed(0, 0)", x.deed(0, 0), STATE);
    due("about(0, 0)", x.about(0, 0), UNKNOWN);
    due("restore()", x.restore(), STATE);
    due("next(0)", x.next(0), STATE);
    due("ways()", x.ways(), STATE);
    due("owed()", x.owed(), STATE);
    ServedAhead y = under(LAW, 0);
    due("another object's LAPSE", y.count(0), 3);
    due("this one's still", x.count(0), 0);
  }

  // letter
  private static void p2() {
    ServedAhead x = new ServedAhead();
    due("letter(31)", x.letter(31), OUTSIDE);
    due("letter(127)", x.letter(127), OUTSIDE);
    due("letter(MIN)", x.letter(Integer.MIN_VALUE), OUTSIDE);
    due("letter(MAX)", x.letter(Integer.MAX_VALUE), OUTSIDE);
    due("letter(32)", x.letter(32), 1);
    due("letter(126)", x.letter(126), 2);
    for (int i = 3; i <= 30; i++) due("letter " + i, x.letter('1'), i);
    due("letter 31", x.letter('1'), FULL);
    due("letter 31, outside", x.letter(31), OUTSIDE);
    due("count(8)", x.count(8), 30);
  }

  // blank
  private static void p3() {
    ServedAhead x = new ServedAhead();
    due("blank() of nothing", x.blank(), 0);
    put(x, "abc");
    due("blank()", x.blank(), 3);
    due("blank() again", x.blank(), 0);
    due("count(8)", x.count(8), 0);
    due("letter behind it", x.letter('1'), 1);
    due("fault() behind it", x.fault(), 1);
  }

  // fault
  private static void p4() {
    due("of nothing", faultOf(""), 0);
    due("of all", faultOf(LAW), LAW.length());
    for (int i = 0; i < LAW.length(); i++) {
      due("of " + i + " letters", faultOf(LAW.substring(0, i)), i);
      due("of a blank at " + i, faultOf(LAW.substring(0, i) + " 1"), i);
    }
    due("TERM 0", faultOf("0"), 0);
    due("TERM 9", faultOf("9"), 1);
    due("WORTH 0", faultOf("10"), 2);
    due("WORTH :", faultOf("1::"), 1);
    due("no :", faultOf("110"), 2);
    due("no SORT", faultOf("11:/"), 3);
    due("SORT 3", faultOf("11:3"), 3);
    due("SORT 3 as second", faultOf("11:03"), 4);
    due("like SORTS", faultOf("11:010"), 5);
    due("three SORTS", faultOf("11:210"), 6);
    due("four SORTS", faultOf("11:2101"), 6);
    due("; behind the first", faultOf("11:0;"), 4);
    due("; behind the third", faultOf("11:0/11:0/11:0;"), 14);
    due("/ behind the fourth", faultOf("11:0/11:0/11:0/11:0/"), 19);
    due("LAPSE 0", faultOf("11:0/11:0/11:0/11:0;0"), 20);
    due("LAPSE 9", faultOf("11:0/11:0/11:0/11:0;9"), 21);
    due("a letter more", faultOf("11:0/11:0/11:0/11:0;99"), 21);
    due("the longest", faultOf("99:012/99:120/99:201/99:210;9"), 29);
    due("the longest and one", faultOf("99:012/99:120/99:201/99:210;9;"), 29);
    ServedAhead x = new ServedAhead();
    put(x, "1x");
    due("fault()", x.fault(), 1);
    due("fault() again", x.fault(), 1);
    due("count(8)", x.count(8), 2);
  }

  // law
  private static void p5() {
    ServedAhead x = new ServedAhead();
    due("law() of nothing", x.law(), STATE);
    put(x, LAW.substring(0, LAW.length() - 1));
    due("law() of a beginning", x.law(), STATE);
    due("THE PAGE stays", x.count(8), LAW.length() - 1);
    due("none was read", x.count(9), 0);
    x.letter('3');
    due("law()", x.law(), 10);
    due("THE PAGE is empty", x.count(8), 0);
    due("one was read", x.count(9), 1);
    due("law() again", x.law(), STATE);
    put(x, LAW + "3");
    due("law() with a letter more", x.law(), STATE);
    x.blank();
    due("the LAW stays", x.count(0), 3);
    put(x, "99:012/99:120/99:201/99:210;9");
    due("the longest", x.law(), 36);
    due("two were read", x.count(9), 2);
    lawAndPeople();
  }

  private static void lawAndPeople() {
    ServedAhead x = under("11:0/11:1/11:2/11:012;9", 0);
    serve(x, 0, 0, 1, 2);
    x.book(0);
    x.next(0);
    put(x, "21:0/21:1/21:2/21:01;1");
    due("another LAW", x.law(), 8);
    due("SORTS are its own", x.deed(3, 2), 3);
    due("PEOPLE stay", x.count(1), 1);
    due("what lapsed by it is gone", x.about(0, 3), 1);
    due("its week", x.about(0, 7), 2);
    due("no BOOK", x.next(0), STATE);
    due("weeks of the BOOK", x.count(7), 0);
    put(x, "11:0/11:1/11:2/11:012;9");
    x.law();
    due("gone for good", x.about(0, 3), 1);
  }

  // deed
  private static void p6() {
    ServedAhead x = under(LAW);
    int[][] want = {{2, 3, 1}, {3, 5, 3}, {4, 9, 4}, {1, 0, 7}};
    for (int d = 0; d < 4; d++)
      for (int what = 0; what < 3; what++) due("deed(" + d + ", " + what + ")", x.deed(d, what), want[d][what]);
    due("deed(-1, 9)", x.deed(-1, 9), UNKNOWN);
    due("deed(4, 0)", x.deed(4, 0), UNKNOWN);
    due("deed(0, 3)", x.deed(0, 3), OUTSIDE);
    due("deed(0, -1)", x.deed(0, -1), OUTSIDE);
    ServedAhead y = new ServedAhead();
    due("no LAW: deed(4, 3)", y.deed(4, 3), UNKNOWN);
    due("no LAW: deed(0, 3)", y.deed(0, 3), OUTSIDE);
    due("no LAW: deed(0, 0)", y.deed(0, 0), STATE);
  }

  // person
  private static void p7() {
    ServedAhead y = new ServedAhead();
    due("no LAW: person(5)", y.person(5), OUTSIDE);
    due("no LAW: person(0)", y.person(0), STATE);
    ServedAhead x = under(LAW);
    due("person(-1)", x.person(-1), OUTSIDE);
    for (int i = 0; i < 4; i++) due("person(" + (i + 1) + ")", x.person(i + 1), i);
    due("a fifth", x.person(0), FULL);
    due("a fifth, outside", x.person(5), OUTSIDE);
    x.leave(0, 1);
    due("the GONE keep their numbers", x.person(0), FULL);
    due("count(1)", x.count(1), 4);
  }

  // about
  private static void p8() {
    ServedAhead x = under("11:0/35:01/49:2/10:012;3", 0, 4);
    due("about(2, 0)", x.about(2, 0), UNKNOWN);
    due("about(-1, 99)", x.about(-1, 99), UNKNOWN);
    due("about(0, -1)", x.about(0, -1), OUTSIDE);
    due("about(0, 10)", x.about(0, 10), OUTSIDE);
    tells(x, 0, 0, 0, 0, 0, 0, 0, 0, NONE, 0, 0);
    tells(x, 1, 4, 0, 0, 0, 0, 0, 0, NONE, 0, 0);
    x.act(0, 1);
    x.act(1, 21);
    tells(x, 0, 0, 0, 0, 1, 0, 1, 0, 0, 1, 0);
    tells(x, 1, 4, 6, 3, 0, 0, 0, 0, NONE, 1, 0);
    x.week();
    serve(x, 0, 0, 2);
    tells(x, 0, 0, 0, 0, 3, 1, 1, 1, 0, 0, 0);
    due("counts so many weeks as LAPSE tells", x.about(0, 5), 1);
    x.week();
    tells(x, 0, 0, 0, 0, 2, 1, 0, 1, 1, 0, 0);
    x.act(1, 2);
    x.leave(1, 0);
    tells(x, 1, 4, 6, 0, 0, 0, 0, 0, NONE, 1, 1);
  }

  private static void tells(ServedAhead x, int person, int... want) {
    for (int what = 0; what < want.length; what++)
      due("about(" + person + ", " + what + ")", x.about(person, what), want[what]);
  }

  // as
  private static void p9() {
    ServedAhead x = under(LAW, 1, 2, 3, 4);
    for (int p = 0; p < 4; p++)
      for (int kind = 0; kind < 5; kind++) {
        boolean is = kind == 0 || kind == p + 1 || p == 3 && kind == 3;
        due("as(" + p + ", " + kind + ")", x.as(p, kind), is ? p : NONE);
      }
    due("as(4, 9)", x.as(4, 9), UNKNOWN);
    due("as(-1, 0)", x.as(-1, 0), UNKNOWN);
    due("as(0, 5)", x.as(0, 5), OUTSIDE);
    due("as(0, -1)", x.as(0, -1), OUTSIDE);
    x.leave(3, 0);
    due("as() of one GONE", x.as(3, 3), 3);
    due("as() of a PERSON as a WIDOW", under(LAW, 0).as(0, 1), NONE);
  }

  // may
  private static void p10() {
    ServedAhead x = under(LAW, 0, 1);
    int[] none = {-1, 3, 9, 14, 19, 24, 30, Integer.MIN_VALUE, Integer.MAX_VALUE};
    for (int act : none) due("may(0, " + act + ")", x.may(0, act), UNKNOWN);
    due("may(2, 0)", x.may(2, 0), UNKNOWN);
    due("may(-1, 0)", x.may(-1, 0), UNKNOWN);
    for (int i = 0; i < 4; i++) {
      due("serves " + i, i < 3 ? x.may(0, i) : 1, 1);
      due("not COVERED " + i, x.may(0, 20 + i), 1);
      due("COVERED " + i, x.may(0, 10 + i), 0);
    }
    x.act(0, 0);
    x.act(1, 0);
    due("a second ACT", x.may(0, 13), 0);
    due("a second serving", x.may(0, 0), 0);
    x.week();
    due("PERSON needs 2", x.may(0, 10), 0);
    due("WIDOW needs 1", x.may(1, 10), 1);
    due("WIDOW needs 1 at least", x.may(1, 13), 1);
    due("WIDOW needs 2", x.may(1, 11), 0);
    x.act(1, 23);
    x.week();
    due("who OWES, COVERED", x.may(1, 10), 0);
    due("who OWES, not COVERED", x.may(1, 20), 0);
    due("who OWES, serves", x.may(1, 1), 1);
    x.leave(1, 0);
    due("one GONE", x.may(1, 0), UNKNOWN);
    ServedAhead y = new ServedAhead();
    due("nobody", y.may(0, 0), UNKNOWN);
  }

  // act
  private static void p11() {
    ServedAhead x = under("23:01/35:01/49:2/10:012;9", 0, 1, 2, 4);
    due("act(0, 3)", x.act(0, 3), UNKNOWN);
    due("act(4, 0)", x.act(4, 0), UNKNOWN);
    due("act(0, 10)", x.act(0, 10), STATE);
    due("refused: no ACT", x.about(0, 8), 0);
    due("act(0, 1)", x.act(0, 1), 0);
    due("act(0, 1) again", x.act(0, 1), STATE);
    due("WIDOW, not COVERED", x.act(1, 20), 3);
    due("WIDOW OWES twice TERM", x.about(1, 2), 4);
    due("MONK serves", x.act(2, 2), 0);
    due("MONK has two", x.about(2, 6), 2);
    due("BARON gets one more", x.act(3, 23), 1);
    due("BARON OWES just TERM", x.about(3, 2), 1);
    x.week();
    x.act(0, 0);
    due("BARON serves after", x.act(3, 0), 1);
    due("OWES less", x.about(3, 2), 0);
    due("no CREDIT for it", x.about(3, 3), 0);
    x.week();
    x.act(0, 0);
    x.week();
    due("COVERED", x.act(0, 10), 3);
    due("the oldest are gone", x.about(0, 7), 2);
    due("one is left", x.about(0, 4), 1);
    theLeastSortFirst();
    roomOfTwelve();
  }

  private static void theLeastSortFirst() {
    ServedAhead x = under("10:210/11:0/11:1/11:2;9", 0, 0, 0);
    x.act(0, 2);
    x.act(1, 0);
    x.act(2, 1);
    x.sell(1, 0, 0);
    x.sell(2, 0, 1);
    x.week();
    x.act(0, 10);
    due("of one week SORT 0 is gone first", x.about(0, 4) * 100 + x.about(0, 5) * 10 + x.about(0, 6), 11);
    x.week();
    x.act(0, 10);
    due("then SORT 1", x.about(0, 5) * 10 + x.about(0, 6), 1);
    due("WORTH 0", x.about(0, 1), 0);
  }

  private static void roomOfTwelve() {
    ServedAhead x = under("11:0/11:1/11:2/11:012;9", 2, 0);
    serve(x, 0, 0, 0, 0, 0, 0);
    x.act(1, 1);
    x.sell(1, 0, 1);
    due("eleven", x.about(0, 3), 11);
    x.act(0, 2);
    due("a MONK gets the one there is room for", x.about(0, 6), 1);
    x.week();
    due("serving with no room", x.act(0, 2), 0);
    due("twelve at most", x.about(0, 3), 12);
  }

  // week
  private static void p12() {
    ServedAhead x = new ServedAhead();
    due("week() without a LAW", x.week(), 1);
    due("week()", x.week(), 2);
    due("count(3)", x.count(3), 2);
    put(x, "11:0/11:1/11:2/11:012;1");
    x.law();
    x.person(0);
    x.act(0, 0);
    due("week()", x.week(), 3);
    due("no ACT yet", x.about(0, 8), 0);
    due("counts in the week behind", x.about(0, 3), 1);
    due("week()", x.week(), 4);
    due("lapsed", x.about(0, 3), 0);
  }

  // sell
  private static void p13() {
    ServedAhead x = under("11:0/11:1/11:2/11:012;2", 2, 0, 2);
    serve(x, 0, 0, 0);
    x.act(0, 1);
    due("sell(0, 0, 0)", x.sell(0, 0, 0), UNKNOWN);
    due("sell(0, 3, 0)", x.sell(0, 3, 0), UNKNOWN);
    due("sell(3, 0, 0)", x.sell(3, 0, 0), UNKNOWN);
    due("sell(0, 1, 3)", x.sell(0, 1, 3), UNKNOWN);
    due("sell(0, 1, -1)", x.sell(0, 1, -1), UNKNOWN);
    due("sell(0, 1, 2)", x.sell(0, 1, 2), STATE);
    due("sell(0, 1, 1)", x.sell(0, 1, 1), 2);
    due("sell(0, 1, 0)", x.sell(0, 1, 0), 0);
    due("the oldest of b", x.about(1, 7), 0);
    due("no ACT of b", x.about(1, 8), 0);
    x.week();
    due("the week goes with it", x.about(1, 4), 0);
    due("lapsed with the seller, too", x.sell(0, 1, 0), 1);
    x.leave(2, 0);
    due("from one GONE", x.sell(2, 0, 0), UNKNOWN);
    due("to one GONE", x.sell(0, 2, 0), UNKNOWN);
    sellToOneWhoIsFull();
  }

  private static void sellToOneWhoIsFull() {
    ServedAhead x = under("11:0/11:1/11:2/11:012;9", 2, 0);
    x.act(1, 1);
    serve(x, 0, 0, 0, 0, 0, 0);
    x.act(0, 0);
    due("full, and none to sell", x.sell(1, 0, 0), STATE);
    due("full", x.sell(1, 0, 1), FULL);
    due("refused: it stays", x.about(1, 5), 1);
    due("the other way", x.sell(0, 1, 0), 0);
    due("now there is room", x.sell(1, 0, 1), 0);
    due("twelve", x.about(0, 3), 12);
  }

  // leave
  private static void p14() {
    ServedAhead x = under("11:0/11:1/11:2/11:012;9", 2, 2, 0);
    x.act(0, 2);
    x.act(1, 0);
    x.sell(1, 0, 0);
    due("leave(0, 0)", x.leave(0, 0), UNKNOWN);
    due("leave(0, 3)", x.leave(0, 3), UNKNOWN);
    due("leave(-1, 0)", x.leave(-1, 0), UNKNOWN);
    x.week();
    serve(x, 1, 1, 1, 1, 1);
    x.act(1, 1);
    due("b has eleven", x.about(1, 3), 11);
    due("leave(0, 1)", x.leave(0, 1), 1);
    due("of one week the least SORT first", x.about(1, 4), 2);
    due("no more than room", x.about(1, 3), 12);
    due("the rest are gone", x.about(0, 3), 0);
    due("leave(0, 1) again", x.leave(0, 1), UNKNOWN);
    due("leave(1, 0)", x.leave(1, 0), UNKNOWN);
    x.act(2, 21);
    due("OWES", x.count(4), 2);
    due("leave(2, 1)", x.leave(2, 1), 0);
    due("OWES nothing any more", x.about(2, 2), 0);
    due("has what he got", x.about(2, 1), 1);
    due("GONE ones", x.count(2), 2);
  }

  // amnesty
  private static void p15() {
    ServedAhead x = new ServedAhead();
    due("nobody", x.amnesty(), 0);
    x = under(LAW, 0, 4);
    x.act(0, 22);
    x.act(1, 20);
    due("amnesty()", x.amnesty(), 10);
    due("amnesty() again", x.amnesty(), 0);
    due("about(0, 2)", x.about(0, 2), 0);
    due("still an ACT of this week", x.may(0, 20), 0);
    due("what he got stays", x.about(0, 1), 9);
    x.week();
    x.act(0, 0);
    due("serving gives CREDIT again", x.about(0, 3), 1);
  }

  // gain
  private static void p16() {
    ServedAhead x = under(LAW, 0, 4);
    due("gain(2, 9, 9)", x.gain(2, 9, 9), UNKNOWN);
    due("gain(0, -1, 0)", x.gain(0, -1, 0), OUTSIDE);
    due("gain(0, 7, 0)", x.gain(0, 7, 0), OUTSIDE);
    due("gain(0, 1, 2)", x.gain(0, 1, 2), OUTSIDE);
    due("gain(0, 1, -1)", x.gain(0, 1, -1), OUTSIDE);
    due("refused ones are not done", x.count(10), 0);
    due("gain(0, 0, 0)", x.gain(0, 0, 0), 0);
    due("gain(0, 0, 1)", x.gain(0, 0, 1), 9);
    due("gain(0, 1, 1)", x.gain(0, 1, 1), 0);
    due("gain(0, 3, 0)", x.gain(0, 3, 0), 3);
    due("gain(0, 4, 0)", x.gain(0, 4, 0), 5);
    due("gain(1, 2, 0)", x.gain(1, 2, 0), 1);
    x.act(0, 2);
    due("behind an ACT: one week less", x.gain(0, 3, 0), 0);
    due("behind an ACT: its CREDIT lapses too soon", x.gain(0, 5, 0), 5);
    due("behind an ACT: so another SORT", x.gain(0, 5, 1), 0);
    due("behind an ACT: no week", x.gain(0, 1, 1), 9);
    due("behind an ACT: gain(0, 0, 0)", x.gain(0, 0, 0), 0);
    due("nothing is changed", x.about(0, 1) * 100 + x.about(0, 3), 1);
    x.leave(1, 0);
    due("one GONE", x.gain(1, 1, 0), UNKNOWN);
    due("how often", x.count(10), 11);
    for (int i = 12; i <= 60; i++) due("gain " + i, x.gain(0, 0, 0), 0);
    due("gain 61", x.gain(0, 0, 0), STATE);
    due("gain 61, outside", x.gain(0, 7, 0), OUTSIDE);
    gainBehindAnAct();
    gainOfOneWhoOwes();
    gainThatBeginsWithADeed();
    gainByMakingRoom();
    gainByWaiting();
  }

  private static void gainBehindAnAct() {
    ServedAhead x = under("23:0/35:01/49:2/10:012;9", 0);
    x.act(0, 2);
    due("CREDIT of this week helps", x.gain(0, 5, 0), 9);
    due("the row begins in the next week", x.gain(0, 5, 1), 2);
    due("without the last week", x.gain(0, 4, 0), 3);
  }

  private static void gainOfOneWhoOwes() {
    ServedAhead x = under("15:0/99:1/99:2/99:2;9", 4);
    x.act(0, 20);
    x.week();
    due("serves after, then ahead", x.gain(0, 3, 0), 6);
    due("too few weeks", x.gain(0, 2, 0), 0);
    due("any serving begins it", x.gain(0, 3, 1), 0);
  }

  private static void gainThatBeginsWithADeed() {
    ServedAhead x = under("90:2/14:0/90:2/90:2;1", 0);
    serve(x, 0, 0);
    due("one week", x.gain(0, 1, 0), 4);
    due("one week: the DEED", x.gain(0, 1, 1), 11);
    due("two weeks: only the DEED first", x.gain(0, 3, 0), 8);
    due("two weeks: its ACT", x.gain(0, 3, 1), 11);
  }

  private static void gainByMakingRoom() {
    ServedAhead x = under("90:1/10:0/19:1/90:1;9", 2);
    serve(x, 0, 0, 0, 0, 0, 0, 0);
    due("a worthless DEED makes room", x.gain(0, 3, 0), 9);
    due("and comes first", x.gain(0, 3, 1), 11);
  }

  /** Eleven CREDITS leave room for one: served now, it lapses too soon; served next week, it does not. */
  private static void gainByWaiting() {
    ServedAhead x = under("90:2/35:1/90:2/90:2;3", 0, 2, 2, 2);
    for (int monk = 1; monk <= 2; monk++) sellServed(x, monk);
    x.week();
    x.act(0, 0);
    for (int monk = 1; monk <= 3; monk++) sellServed(x, monk);
    x.week();
    due("room for one", x.about(0, 3), 11);
    due("the DEED comes in the fifth week", x.gain(0, 4, 0), 0);
    due("gain by waiting", x.gain(0, 5, 0), 5);
    due("no ACT begins it", x.gain(0, 5, 1), 9);
    due("with a week more any does", x.gain(0, 6, 1), 0);
    due("with a week more as much", x.gain(0, 6, 0), 5);
  }

  private static void sellServed(ServedAhead x, int monk) {
    x.act(monk, 0);
    x.sell(monk, 0, 0);
    x.sell(monk, 0, 0);
  }

  // soon
  private static void p17() {
    ServedAhead x = under("23:0/35:01/49:2/99:012;3", 0, 2, 1);
    due("soon(3, 0)", x.soon(3, 0), UNKNOWN);
    due("soon(0, 4)", x.soon(0, 4), UNKNOWN);
    due("soon(0, -1)", x.soon(0, -1), UNKNOWN);
    due("PERSON needs 2", x.soon(0, 0), 2);
    due("WIDOW needs 1", x.soon(2, 0), 1);
    due("MONK gets two a week", x.soon(1, 2), 2);
    due("CREDITS lapse sooner", x.soon(0, 2), NONE);
    due("LAPSE 3: three weeks at most", x.soon(2, 2), 3);
    x.act(0, 1);
    due("from the next week on", x.soon(0, 1), 2);
    x.week();
    due("with what is held", x.soon(0, 1), 2);
    x.act(0, 0);
    x.week();
    x.act(0, 0);
    due("0: in the next week", x.soon(0, 1), 0);
    x.week();
    due("0: in this week", x.soon(0, 1), 0);
    x.act(0, 2);
    due("lapsed in the next week", x.soon(0, 1), 3);
    x.act(1, 20);
    due("OWES", x.soon(1, 0), STATE);
    due("OWES, no DEED", x.soon(1, 4), UNKNOWN);
    x.leave(1, 0);
    due("GONE", x.soon(1, 0), UNKNOWN);
    ServedAhead y = under("99:0/80:1/99:012/12:0;9", 0);
    due("nine weeks at most", y.soon(0, 0), 9);
    due("always one SORT", y.soon(0, 2), 9);
    serve(y, 0, 1);
    due("what is held of another SORT helps", y.soon(0, 2), 8);
  }

  // kept
  private static void p18() {
    ServedAhead y = new ServedAhead();
    due("no LAW: kept(4)", y.kept(4), UNKNOWN);
    due("no LAW: kept(0)", y.kept(0), STATE);
    ServedAhead x = under("99:0/99:1/99:2/99:012;2", 0, 1, 2);
    due("kept(-1)", x.kept(-1), UNKNOWN);
    due("nobody could", x.kept(0), 1);
    x.act(0, 0);
    due("in the next week", x.kept(0), 2);
    x.act(1, 1);
    due("a WIDOW needs one less", x.kept(1), 3);
    x.act(2, 2);
    due("a MONK has two", x.kept(2), 3);
    x.week();
    x.week();
    due("it still counts", x.kept(0), 2);
    x.act(0, 1);
    due("but not in the next week", x.kept(0), 1);
    due("nothing else changed", x.deed(0, 0), 9);
    x.leave(2, 1);
    due("what was left", x.kept(2), 4);
    x.act(1, 20);
    due("who OWES could not", x.kept(2), 1);
    ServedAhead z = under("99:0/99:1/99:2/99:012;9", 2);
    serve(z, 0, 0, 0, 0, 0);
    due("the greatest TERM", z.kept(0), 9);
    serve(z, 0, 0);
    due("none", z.kept(0), NONE);
    for (int i = 0; i < 4; i++) z.week();
    due("ten count", z.kept(0), NONE);
    z.act(0, 1);
    due("two lapse next week", z.kept(0), 9);
    z.week();
    due("two have lapsed", z.kept(0), 9);
    z.act(0, 1);
    due("two have lapsed, two lapse next week", z.kept(0), 7);
  }

  // book
  private static void p19() {
    ServedAhead x = under(LAW, 0, 0);
    due("book(2)", x.book(2), UNKNOWN);
    due("book(0)", x.book(0), 0);
    x.next(0);
    x.next(0);
    due("another one", x.book(1), 2);
    due("has no weeks yet", x.count(7), 0);
    x.act(0, 0);
    due("behind an ACT", x.book(0), STATE);
    due("the other one goes on", x.next(0), 1);
    x.leave(0, 1);
    due("of one GONE", x.book(0), UNKNOWN);
    due("count(7)", x.count(7), 1);
  }

  // next
  private static void p20() {
    ServedAhead x = under(LAW, 0);
    due("no BOOK: next(1000)", x.next(1000), STATE);
    x.book(0);
    due("next(-1)", x.next(-1), OUTSIDE);
    due("next(1000)", x.next(1000), OUTSIDE);
    due("next(0)", x.next(0), 1);
    due("next(999)", x.next(999), 2);
    due("it may be less", x.next(3), 3);
    due("next(3)", x.next(3), 4);
    due("next(3)", x.next(3), 5);
    due("a sixth", x.next(3), FULL);
    due("a sixth, outside", x.next(1000), OUTSIDE);
    due("count(7)", x.count(7), 5);
  }

  // ways
  private static void p21() {
    ServedAhead x = under(LAW, 0, 3);
    due("no BOOK", x.ways(), STATE);
    x.book(0);
    due("no weeks", x.ways(), 1);
    x.next(0);
    due("three servings, none, a worthless DEED", x.ways(), 5);
    x.act(0, 22);
    x.week();
    due("from what he is as it begins", x.ways(), 5);
    x.next(9);
    due("a DEED not COVERED behind any of four", x.ways(), 4);
    x.book(1);
    x.next(0);
    due("a THIEF gets 1 for nothing", x.ways(), 4);
    x.next(0);
    x.next(1);
    due("COVERED or not", x.ways(), 16 + 15);
    due("how often", x.count(11), 6);
    ServedAhead y = under("10:0/10:0/10:0/10:0;9", 0);
    y.book(0);
    y.next(0);
    y.next(0);
    due("COVERED by what he served, and who OWES serves or not", y.ways(), 4 * 8 + 4 + 4 * 4);
    y.next(1);
    due("none", y.ways(), 0);
  }

  // owed
  private static void p22() {
    ServedAhead x = under(LAW, 0, 4);
    due("no BOOK", x.owed(), STATE);
    x.book(0);
    due("no weeks", x.owed(), 0);
    x.next(9);
    due("twice TERM", x.owed(), 8);
    x.next(9);
    due("none may do nothing", x.owed(), 8);
    x.next(0);
    due("no WAYS", x.owed(), NONE);
    x.act(1, 22);
    x.week();
    x.book(1);
    due("no weeks: as it begins", x.owed(), 4);
    for (int i = 6; i <= 40; i++) due("owed " + i, i % 2 == 0 ? x.owed() : x.ways(), i % 2 == 0 ? 4 : 1);
    due("owed 41", x.owed(), STATE);
    due("ways 41", x.ways(), STATE);
    due("how often", x.count(11), 40);
  }

  // years
  private static void p23() {
    ServedAhead x = new ServedAhead();
    due("no LAW, outside", x.years(0, 0, 0), OUTSIDE);
    due("no LAW", x.years(1, 0, 0), STATE);
    x = under(LAW);
    due("years(0, 0, 0)", x.years(0, 0, 0), OUTSIDE);
    due("years(61, 0, 0)", x.years(61, 0, 0), OUTSIDE);
    due("years(1, -1, 0)", x.years(1, -1, 0), OUTSIDE);
    due("years(1, 0, 4)", x.years(1, 0, 4), OUTSIDE);
    due("years(1, 0, -1)", x.years(1, 0, -1), OUTSIDE);
    due("nobody draws", x.years(60, 7, 3), 7);
    x.person(4);
    due("one DRAW", x.years(1, 0, 3), 12345);
    due("a DRAW of 0", x.years(1, 0, 2), 0);
    due("the greatest seed", x.years(1, Integer.MAX_VALUE, 3), (1103515245L * 2147483647L + 12345) % 2147483648L);
    yearsByHand();
    due("nothing is changed", x.count(3) + x.count(4) + x.count(5) + x.about(0, 8), 0);
  }

  /** Each seed up to 400, one week, with one who has CREDITS, one who OWES, one GONE, one who did an ACT. */
  private static void yearsByHand() {
    ServedAhead x = again();
    int[] gets = {3, 5, 9, 0};
    for (int from = 0; from < 400; from++) {
      long seed = from;
      int got = x.count(5), owes = x.count(4), deeds = 0;
      for (int p = 0; p < 4; p++) {
        if (p == 2) continue;
        seed = (1103515245L * seed + 12345) % 2147483648L;
        int draw = (int) (seed / 65536 % 12);
        if (p == 1 && draw < 3) owes--;
        if (p != 0 || draw < 3 || draw > 10 || draw == 5) continue;
        deeds++;
        got += gets[(draw - 3) % 4];
        if (draw >= 7) owes += 2;
      }
      due("seed " + from + ", got", x.years(1, from, 0), got);
      due("seed " + from + ", owe", x.years(1, from, 1), owes);
      due("seed " + from + ", deeds", x.years(1, from, 2), deeds);
      due("seed " + from + ", then", x.years(1, from, 3), seed);
      if (from % 50 == 49) x = again();
    }
  }

  /** An object is used for 512 calls at most. */
  private static ServedAhead again() {
    ServedAhead x = under("13:0/15:01/19:2/10:012;9", 0, 3, 2, 4);
    x.act(0, 0);
    x.act(1, 20);
    x.week();
    x.act(3, 21);
    x.leave(2, 0);
    return x;
  }

  // image
  private static void p24() {
    ServedAhead x = new ServedAhead();
    due("image() of nothing", x.image(), 0);
    x.week();
    x.week();
    due("the week", x.image(), 2);
    x.week();
    due("the latest", x.restore(), 2);
    put(x, LAW);
    x.law();
    x.person(0);
    due("image() leaves all as it is", x.image() + x.count(1), 3);
  }

  // restore
  private static void p25() {
    ServedAhead x = under("11:0/35:01/49:2/10:012;9", 0, 4);
    due("none was kept", x.restore(), STATE);
    x.act(0, 0);
    x.act(1, 22);
    x.book(0);
    x.image();
    long all = x.digest();
    x.week();
    x.act(0, 10);
    x.act(1, 0);
    x.person(2);
    x.leave(1, 2);
    put(x, "12");
    x.week();
    x.book(0);
    x.next(3);
    due("restore()", x.restore(), 0);
    tells(x, 0, 0, 0, 0, 1, 1, 0, 0, 0, 1, 0);
    tells(x, 1, 4, 10, 4, 0, 0, 0, 0, NONE, 1, 0);
    due("who came since is gone", x.about(2, 0), UNKNOWN);
    due("no BOOK", x.next(0), STATE);
    due("weeks of the BOOK", x.count(7), 0);
    due("THE PAGE stays", x.blank(), 2);
    due("all is as it was", x.digest(), all);
    due("a new one", x.person(1), 2);
    tells(x, 2, 1, 0, 0, 0, 0, 0, 0, NONE, 0, 0);
    x.week();
    due("restore() again", x.restore(), 0);
    due("PEOPLE as kept", x.count(1), 2);
    restoreUnderAnotherLaw();
  }

  private static void restoreUnderAnotherLaw() {
    ServedAhead x = under("11:0/11:1/11:2/11:012;9", 0);
    serve(x, 0, 0, 0, 0, 0);
    x.image();
    x.week();
    put(x, "11:0/11:1/11:2/11:012;2");
    x.law();
    due("by the new LAPSE", x.about(0, 3), 1);
    due("restore()", x.restore(), 4);
    due("what does not count by it is gone", x.about(0, 3), 2);
    due("the LAW stays", x.count(0), 2);
    due("how often a LAW was read stays", x.count(9), 2);
    put(x, "11:0/11:1/11:2/11:012;9");
    x.law();
    due("gone for good", x.about(0, 3), 2);
    x.restore();
    due("the IMAGE keeps what it kept", x.about(0, 3), 4);
  }

  // count
  private static void p26() {
    ServedAhead x = under("11:0/35:01/49:2/10:012;9", 2, 4, 0);
    due("count(-1)", x.count(-1), OUTSIDE);
    due("count(12)", x.count(12), OUTSIDE);
    x.act(0, 1);
    x.act(1, 22);
    x.act(2, 20);
    x.leave(2, 0);
    x.week();
    x.book(0);
    x.next(0);
    x.next(0);
    x.next(0);
    x.gain(0, 1, 0);
    x.gain(0, 1, 0);
    x.ways();
    x.owed();
    x.ways();
    put(x, "12345");
    int[] want = {9, 3, 1, 1, 4, 11, 2, 3, 5, 1, 2, 3};
    for (int what = 0; what < want.length; what++) due("count(" + what + ")", x.count(what), want[what]);
  }

  // digest
  private static void p27() {
    ServedAhead x = new ServedAhead();
    due("of a new object", x.digest(), hash(0, 0, 0, 0, 0, 0, 0, 0, 0, 0, 0, 0));
    put(x, "1a");
    due("of letters", x.digest(), hash('1', 'a', 0, 0, 0, 0, 0, 0, 0, 0, 2, 0, 0, 0));
    x = under("21:0/32:1/43:2/94:012;9", 0, 0, 4);
    x.act(0, 0);
    x.act(1, 1);
    x.act(2, 20);
    x.leave(1, 0);
    x.letter('7');
    long want = hash(2, 1, 1, 2, 3, 2, 2, 2, 4, 3, 4, 1, 9, 4, 7, 3,
        0, 0, 0, 2, 1, 1, 0, 0, 1, 0, 1, 2, 4, 7,
        0, 0, 0, 0, 0, 0, 0, NONE, 1, 1,
        4, 2, 2, 0, 0, 0, 0, NONE, 1, 0, STATE, STATE, STATE, STATE,
        '7', 9, 3, 1, 0, 2, 2, 2, 0, 1, 1, 0, 0);
    due("digest()", x.digest(), want);
    due("digest() again", x.digest(), want);
  }
}
