// The boundaries of THE PAGE and of THE LAW: promises 2 to 6, and the form that a LAW has.
public final class LawEdges extends EdgeCases {
  private static final String SHORTEST = "11:0/11:0/11:0/11:0;1";
  private static final String LONGEST = "99:012/99:120/99:201/99:210;9";
  private static final String TERMS = "123456789", WORTHS = "0123456789";

  public static void main(String[] args) {
    letter();
    blank();
    formOfADeed();
    formOfSorts();
    formOfTheWhole();
    fault();
    whatIsNoLaw();
    law();
    lawAndWhatIs();
    deed();
    end(2, 3, 4, 5, 6);
  }

  // ---- 2 letter

  private static void letter() {
    edge(2, "letter: code (32 to 126), the least", () -> {
      ServedAhead x = new ServedAhead();
      due("letter(31)", x.letter(31), OUTSIDE);
      due("letter(32)", x.letter(32), 1);
    });
    edge(2, "letter: code (32 to 126), the greatest", () -> {
      ServedAhead x = new ServedAhead();
      due("letter(127)", x.letter(127), OUTSIDE);
      due("letter(126)", x.letter(126), 1);
    });
    edge(2, "letter: code (32 to 126), all of them and none else", () -> {
      ServedAhead x = new ServedAhead();
      for (int code = -3; code < 260; code++) {
        boolean inside = code >= 32 && code <= 126;
        due("letter(" + code + ")", x.letter(code), inside ? 1 : OUTSIDE);
        if (inside) x.blank();
      }
      due("letter(0)", x.letter(0), OUTSIDE);
      due("letter(MIN)", x.letter(MIN), OUTSIDE);
      due("letter(MAX)", x.letter(MAX), OUTSIDE);
      due("letter(65536 + '1'), like '1' in its low bits", x.letter(65536 + '1'), OUTSIDE);
    });
    edge(2, "letter: FULL above 30", () -> {
      ServedAhead x = new ServedAhead();
      for (int i = 1; i <= 30; i++) due("letter " + i, x.letter('1'), i);
      due("letter 31", x.letter('1'), FULL);
      x.blank();
      due("room again behind blank()", x.letter('1'), 1);
    });
    edge(2, "letter: OUTSIDE is told ahead of FULL", () -> {
      due("31", fullPage().letter(31), OUTSIDE);
      due("127", fullPage().letter(127), OUTSIDE);
    });
    edge(2, "letter: refused, it changes nothing", () -> {
      refused("letter(31)", EdgeCases::busy, x -> x.letter(31), OUTSIDE);
      refused("letter(127)", EdgeCases::busy, x -> x.letter(127), OUTSIDE);
      refused("letter('1')", LawEdges::fullPage, x -> x.letter('1'), FULL);
    });
  }

  private static ServedAhead fullPage() {
    ServedAhead x = busy();
    x.blank();
    put(x, LONGEST + "z");
    return x;
  }

  // ---- 3 blank

  private static void blank() {
    edge(3, "blank: an empty PAGE", () -> {
      ServedAhead x = new ServedAhead();
      due("blank()", x.blank(), 0);
      due("letters", x.count(8), 0);
    });
    edge(3, "blank: one letter", () -> {
      ServedAhead x = new ServedAhead();
      x.letter('1');
      due("blank()", x.blank(), 1);
      due("blank() again", x.blank(), 0);
    });
    edge(3, "blank: a full PAGE", () -> {
      ServedAhead x = fullPage();
      due("blank()", x.blank(), 30);
      due("letters", x.count(8), 0);
      due("fault()", x.fault(), 0);
      due("blank() again", x.blank(), 0);
    });
    edge(3, "blank: all but THE PAGE stays", () -> {
      changesNothing("blank() of nothing", () -> blanked(busy()), x -> x.blank());
      ServedAhead x = busy();
      x.blank();
      put(x, "12:");
      due("with the same letters again", x.digest(), busy().digest());
    });
  }

  private static ServedAhead blanked(ServedAhead x) {
    x.blank();
    return x;
  }

  // ---- 4 fault, and the form of a LAW

  private static void formOfADeed() {
    for (int deed = 0; deed < 4; deed++) {
      String ahead = "11:0/".repeat(deed);
      edge(4, "fault: DEED " + deed + ", a digit TERM (1 to 9)", () -> takes(ahead, TERMS));
      edge(4, "fault: DEED " + deed + ", a digit WORTH (0 to 9)", () -> {
        takes(ahead + "1", WORTHS);
        takes(ahead + "9", WORTHS);
      });
      edge(4, "fault: DEED " + deed + ", ':' behind them", () -> {
        takes(ahead + "10", ":");
        takes(ahead + "99", ":");
      });
    }
  }

  private static void formOfSorts() {
    for (int deed = 0; deed < 4; deed++) {
      String ahead = "11:0/".repeat(deed) + "11:";
      String end = deed < 3 ? "/" : ";";
      String one = "fault: DEED " + deed + ", ";
      edge(4, one + "one SORT (0 to 2) at least", () -> takes(ahead, "012"));
      edge(4, one + "unlike digits, a second one", () -> {
        takes(ahead + "0", "12" + end);
        takes(ahead + "1", "02" + end);
        takes(ahead + "2", "01" + end);
      });
      edge(4, one + "unlike digits, a third one", () -> {
        for (String two : new String[] {"01", "10"}) takes(ahead + two, "2" + end);
        for (String two : new String[] {"02", "20"}) takes(ahead + two, "1" + end);
        for (String two : new String[] {"12", "21"}) takes(ahead + two, "0" + end);
      });
      edge(4, one + "three SORTS at most", () -> {
        for (String three : new String[] {"012", "021", "102", "120", "201", "210"}) takes(ahead + three, end);
      });
    }
  }

  private static void formOfTheWhole() {
    edge(4, "fault: '/' between, behind the last one ';'", () -> {
      takes("11:0", "12/");
      takes("11:0/11:0", "12/");
      takes("11:0/11:0/11:0", "12/");
      takes("11:0/11:0/11:0/11:0", "12;");
    });
    edge(4, "fault: a digit LAPSE (1 to 9)", () -> {
      takes(SHORTEST.substring(0, 20), TERMS);
      takes(LONGEST.substring(0, 28), TERMS);
    });
    edge(4, "fault: nothing behind LAPSE", () -> {
      takes(SHORTEST, "");
      takes(LONGEST, "");
    });
  }

  /** Behind a beginning of a LAW, of all letters just these come. */
  private static void takes(String ahead, String these) {
    ServedAhead x = new ServedAhead();
    int calls = 0;
    for (int code = 32; code <= 126; code++) {
      // an object is used for 512 calls at most
      if (calls + ahead.length() + 3 > 512) {
        x = new ServedAhead();
        calls = 0;
      }
      x.blank();
      put(x, ahead);
      x.letter(code);
      int want = ahead.length() + (these.indexOf(code) >= 0 ? 1 : 0);
      due("'" + ahead + (char) code + "'", x.fault(), want);
      calls += ahead.length() + 3;
    }
  }

  private static void fault() {
    edge(4, "fault: how many letters, if there is none: an empty PAGE", () -> {
      due("fault()", new ServedAhead().fault(), 0);
    });
    edge(4, "fault: how many letters, if there is none: a beginning, a whole LAW", () -> {
      for (String law : new String[] {SHORTEST, LONGEST}) {
        for (int n = 1; n <= law.length(); n++) due(law.substring(0, n), faultOf(law.substring(0, n)), n);
      }
    });
    edge(4, "fault: the first letter of all", () -> {
      due("'0'", faultOf("0"), 0);
      due("' 1'", faultOf(" 1"), 0);
    });
    edge(4, "fault: the last letter of a full PAGE", () -> {
      due(LONGEST + ";", faultOf(LONGEST + ";"), 29);
      due(LONGEST + "1", faultOf(LONGEST + "1"), 29);
    });
    edge(4, "fault: of several the first", () -> {
      due("'1x0'", faultOf("1x0"), 1);
      due("'x'", faultOf("x".repeat(30)), 0);
      due("four SORTS, then more", faultOf("11:0120/x"), 6);
      due("a LAPSE too much, twice", faultOf(SHORTEST + "11"), 21);
    });
    edge(4, "fault: what stood on THE PAGE before is nothing to it", () -> {
      ServedAhead x = new ServedAhead();
      put(x, "11:012/x");
      due("fault()", x.fault(), 7);
      x.blank();
      put(x, "11:012/");
      due("fault() of another", x.fault(), 7);
      due("fault() again", x.fault(), 7);
      x.letter('2');
      due("a letter more", x.fault(), 8);
    });
    edge(4, "fault: it changes nothing", () -> {
      changesNothing("fault()", EdgeCases::busy, x -> x.fault());
      changesNothing("fault() of a full PAGE", LawEdges::fullPage, x -> x.fault());
    });
  }

  private static int faultOf(String text) {
    ServedAhead x = new ServedAhead();
    put(x, text);
    return x.fault();
  }

  // ---- 5 law

  private static void whatIsNoLaw() {
    edge(5, "law: STATE: an empty PAGE", () -> {
      due("law()", new ServedAhead().law(), STATE);
      refused("law()", () -> withPage(""), x -> x.law(), STATE);
    });
    edge(5, "law: STATE: each beginning of a LAW", () -> {
      for (int n = 0; n < SHORTEST.length(); n++) due("of " + n, read(new ServedAhead(), SHORTEST.substring(0, n)), STATE);
      for (int n = 0; n < LONGEST.length(); n++) due("of " + n, read(new ServedAhead(), LONGEST.substring(0, n)), STATE);
    });
    edge(5, "law: STATE: a letter behind LAPSE", () -> {
      due("of the shortest", read(new ServedAhead(), SHORTEST + "1"), STATE);
      due("of the longest, a full PAGE", read(new ServedAhead(), LONGEST + "9"), STATE);
      due("a blank", read(new ServedAhead(), SHORTEST + " "), STATE);
    });
    edge(5, "law: STATE: a beginning, on a PAGE that had a whole LAW before", () -> {
      for (String law : new String[] {SHORTEST, LONGEST}) {
        ServedAhead x = new ServedAhead();
        put(x, law);
        x.blank();
        put(x, law.substring(0, law.length() - 1));
        due("law() behind blank()", x.law(), STATE);
        x.letter('9');
        x.law();
        put(x, law.substring(0, law.length() - 1));
        due("law() behind law()", x.law(), STATE);
        due("how often one was read", x.count(9), 1);
      }
    });
    edge(5, "law: four DEEDS, not three, not five", () -> {
      due("three", read(new ServedAhead(), "11:0/11:0/11:0;1"), STATE);
      due("four", read(new ServedAhead(), SHORTEST), 4);
      due("five", read(new ServedAhead(), "11:0/11:0/11:0/11:0/11:0;1"), STATE);
    });
    edge(5, "law: a digit out of its bounds", () -> {
      due("TERM 0", read(new ServedAhead(), "11:0/11:0/11:0/01:0;1"), STATE);
      due("LAPSE 0", read(new ServedAhead(), "11:0/11:0/11:0/11:0;0"), STATE);
      due("SORT 3", read(new ServedAhead(), "11:0/11:0/11:0/11:3;1"), STATE);
      due("no SORT", read(new ServedAhead(), "11:0/11:0/11:0/11:;1"), STATE);
      due("SORTS alike", read(new ServedAhead(), "11:0/11:0/11:0/11:00;1"), STATE);
    });
    edge(5, "law: refused, it changes nothing: THE PAGE, the LAW and the BOOK stay", () -> {
      refused("law() of a beginning", EdgeCases::busy, x -> x.law(), STATE);
      refused("law() of too much", LawEdges::fullPage, x -> x.law(), STATE);
      refused("law() of an unlike last letter", () -> withPage("99:2/99:1/99:0/99:0;0"), x -> x.law(), STATE);
    });
  }

  private static ServedAhead withPage(String text) {
    ServedAhead x = busy();
    x.blank();
    put(x, text);
    return x;
  }

  private static void law() {
    edge(5, "law: all TERMS together, the least and the most", () -> {
      due("four times 1", read(new ServedAhead(), SHORTEST), 4);
      due("four times 9", read(new ServedAhead(), LONGEST), 36);
      due("each counts once", read(new ServedAhead(), "10:0/20:0/40:0/80:0;1"), 15);
    });
    edge(5, "law: THE PAGE is empty then", () -> {
      ServedAhead x = under(LONGEST);
      due("letters", x.count(8), 0);
      due("law() again", x.law(), STATE);
      due("the LAW stays", x.count(0), 9);
      due("the next letter is the first", x.letter('1'), 1);
    });
    edge(5, "law: another one is gone", () -> {
      ServedAhead x = under(LONGEST);
      read(x, SHORTEST);
      for (int deed = 0; deed < 4; deed++) {
        due("TERM", x.deed(deed, 0), 1);
        due("WORTH", x.deed(deed, 1), 1);
        due("SORTS", x.deed(deed, 2), 1);
      }
      due("LAPSE", x.count(0), 1);
      due("how often", x.count(9), 2);
    });
    edge(5, "law: the same again is another one, too", () -> {
      ServedAhead x = under(SHORTEST, PERSON);
      x.book(0);
      due("law()", read(x, SHORTEST), 4);
      due("how often", x.count(9), 2);
      due("no BOOK", x.next(0), STATE);
    });
  }

  private static void lawAndWhatIs() {
    edge(5, "law: no BOOK has begun", () -> {
      ServedAhead x = busy();
      due("weeks ahead of it", x.count(7), 2);
      read(x, SHORTEST);
      due("weeks", x.count(7), 0);
      due("next(0)", x.next(0), STATE);
      due("ways()", x.ways(), STATE);
      due("owed()", x.owed(), STATE);
      due("a BOOK then: the other one had none", x.book(0), 0);
    });
    edge(5, "law: PEOPLE stay", () -> {
      ServedAhead x = busy();
      read(x, "99:0/99:0/99:0/99:0;9");
      due("how many", x.count(1), 4);
      due("GONE ones", x.count(2), 1);
      due("OWED", x.count(4), 8);
      due("got", x.count(5), 13);
      due("CREDITS", x.count(6), 9);
      due("an ACT was done", x.about(1, 8), 1);
      due("none was done", x.about(0, 8), 0);
      due("the week", x.count(3), 2);
    });
    for (int lapse = 1; lapse <= 9; lapse++) {
      int so = lapse;
      edge(5, "law: a CREDIT counts by another LAW: LAPSE " + so, () -> {
        due("so many weeks behind", creditUnderNewLapse(so, so), 1);
        due("one more", creditUnderNewLapse(so, so + 1), 0);
      });
    }
    edge(5, "law: what does not count by it is gone for good", () -> {
      ServedAhead x = under("11:0/11:0/11:0/11:0;9", PERSON);
      serve(x, 0, 0, 0);
      read(x, "11:0/11:0/11:0/11:0;1");
      due("one of two", x.about(0, 3), 1);
      read(x, "11:0/11:0/11:0/11:0;9");
      due("under the first again", x.about(0, 3), 1);
      due("its week", x.about(0, 7), 1);
    });
  }

  /** How many of one CREDIT count so many weeks behind its week, when a LAW of such a LAPSE comes. */
  private static int creditUnderNewLapse(int lapse, int weeks) {
    ServedAhead x = under("11:0/11:0/11:0/11:0;9", PERSON, PERSON);
    int late = weeks > 9 ? 9 : weeks;
    x.act(0, 0);
    passWeeks(x, late);
    read(x, "11:0/11:0/11:0/11:0;" + (char) ('0' + lapse));
    passWeeks(x, weeks - late);
    return x.about(0, 3);
  }

  // ---- 6 deed

  private static void deed() {
    edge(6, "deed: UNKNOWN: a DEED (0 to 3)", () -> {
      ServedAhead x = under("12:0/34:1/56:2/78:01;9");
      due("deed(-1, 0)", x.deed(-1, 0), UNKNOWN);
      due("deed(0, 0)", x.deed(0, 0), 1);
      due("deed(3, 0)", x.deed(3, 0), 7);
      due("deed(4, 0)", x.deed(4, 0), UNKNOWN);
      due("deed(MIN, 0)", x.deed(MIN, 0), UNKNOWN);
      due("deed(MAX, 0)", x.deed(MAX, 0), UNKNOWN);
    });
    edge(6, "deed: OUTSIDE: what (0 to 2)", () -> {
      ServedAhead x = under("12:0/34:1/56:2/78:01;9");
      due("deed(0, -1)", x.deed(0, -1), OUTSIDE);
      due("deed(0, 0)", x.deed(0, 0), 1);
      due("deed(0, 2)", x.deed(0, 2), 1);
      due("deed(0, 3)", x.deed(0, 3), OUTSIDE);
      due("deed(0, MIN)", x.deed(0, MIN), OUTSIDE);
      due("deed(0, MAX)", x.deed(0, MAX), OUTSIDE);
    });
    edge(6, "deed: the least and the greatest digits", () -> {
      ServedAhead x = under("10:0/99:0/19:0/90:0;9");
      int[][] want = {{1, 0}, {9, 9}, {1, 9}, {9, 0}};
      for (int d = 0; d < 4; d++) {
        due("TERM of " + d, x.deed(d, 0), want[d][0]);
        due("WORTH of " + d, x.deed(d, 1), want[d][1]);
      }
    });
    edge(6, "deed: SORTS as bits, one to three, in any order", () -> {
      String[] sorts = {"0", "1", "2", "01", "10", "02", "20", "12", "21", "012", "021", "102", "120", "201", "210"};
      int[] bits = {1, 2, 4, 3, 3, 5, 5, 6, 6, 7, 7, 7, 7, 7, 7};
      for (int i = 0; i < sorts.length; i++) {
        due("first " + sorts[i], under("11:" + sorts[i] + "/11:0/11:0/11:0;1").deed(0, 2), bits[i]);
        due("last " + sorts[i], under("11:0/11:0/11:0/11:" + sorts[i] + ";1").deed(3, 2), bits[i]);
      }
    });
    edge(6, "deed: STATE: no LAW", () -> {
      ServedAhead x = new ServedAhead();
      for (int what = 0; what < 3; what++) due("deed(0, " + what + ")", x.deed(0, what), STATE);
      put(x, SHORTEST);
      due("a LAW that is not read", x.deed(3, 2), STATE);
      x.law();
      due("one that is", x.deed(3, 2), 1);
    });
    edge(6, "deed: UNKNOWN ahead of OUTSIDE ahead of STATE", () -> {
      ServedAhead none = new ServedAhead();
      due("all three", none.deed(4, 3), UNKNOWN);
      due("UNKNOWN and STATE", none.deed(-1, 0), UNKNOWN);
      due("OUTSIDE and STATE", none.deed(0, 3), OUTSIDE);
      due("OUTSIDE and STATE, below", none.deed(3, -1), OUTSIDE);
      due("UNKNOWN and OUTSIDE", busy().deed(4, -1), UNKNOWN);
    });
    edge(6, "deed: refused, it changes nothing", () -> {
      refused("deed(4, 0)", EdgeCases::busy, x -> x.deed(4, 0), UNKNOWN);
      refused("deed(0, 3)", EdgeCases::busy, x -> x.deed(0, 3), OUTSIDE);
      refused("deed(0, 0)", ServedAhead::new, x -> x.deed(0, 0), STATE);
    });
  }
}
