import java.util.List;

/** Boundary cases of the tape, of texts and of their faults: promises 9 to 12 and 14, part II. */
final class TextEdges {
  private static final int MIN = Scene.MIN;
  private static final int MAX = Scene.MAX;
  private static final int BLANKS = 0x20202020;

  private static final String FEED =
      "Twenty bytes come behind the tape, the highest of a first: how many it has.";
  private static final String TEXT_NONE = "NONE: it has a FAULT; or (the tape stays) there are 4.";
  private static final String FAULT_OF =
      "Of the latest text that was read: 0 its FAULT (0 without), 1 its place (NONE without).";
  private static final String FAULT_NONE = "NONE for others, and ahead of any.";
  private static final String FAULT_1 =
      "FAULTS, the first as TOKENS are come to, at the TOKEN's first byte (of the end at the"
          + " length), of one the least: 1 it can't stand there, or is none.";
  private static final String FAULT_3 =
      "3 the 9th of ( not and - (of one ONE) that are open around one another (at it).";
  private static final String RULE =
      "A RULE is a TEXT (NONE: none): what is asked by a RULE is asked by its clauses.";

  private TextEdges() {}

  static void addTo(Edges edges) {
    edges.promise(9, FEED, TextEdges::twentyBytes);
    edges.promise(9, FEED, TextEdges::highestFirst);
    edges.promise(
        9, "NONE, and none come, if there would be more than 300.", TextEdges::fullTape);
    edges.promise(10, "The tape has its first n bytes alone: n.", TextEdges::firstBytesAlone);
    edges.promise(
        10,
        "NONE, and nothing is done, if it has not so many, or n is below 0.",
        TextEdges::wrongEnds);
    edges.promise(11, "The tape (empty then) is a TEXT: its number.", TextEdges::emptyThen);
    edges.promise(11, TEXT_NONE, TextEdges::noTextByAFault);
    edges.promise(11, TEXT_NONE, TextEdges::fifthText);
    edges.promise(12, FAULT_OF, TextEdges::latestFault);
    edges.promise(12, FAULT_NONE, TextEdges::noFaultYet);
    edges.promise(14, "PLACES ROUND a PLACE by a RULE (bits).", TextEdges::roundBits);
    edges.promise(14, "NONE for others.", TextEdges::wrongRounds);
    edges.term("TEXTS 0 .. 3: of up to 300 bytes.", TextEdges::fourTexts);
    edges.term("TEXTS 0 .. 3: of up to 300 bytes.", TextEdges::texts300BytesLong);
    edges.term(FAULT_1, TextEdges::firstFaultCounts);
    edges.term(FAULT_1, TextEdges::firstByteOfTheToken);
    edges.term(FAULT_1, TextEdges::endAtTheLength);
    edges.term(FAULT_1, TextEdges::leastOfOneToken);
    edges.term("2 a NUMBER above 9999.", TextEdges::numberAbove9999);
    edges.term(FAULT_3, TextEdges::ninthOfOneKind);
    edges.term(FAULT_3, TextEdges::ninthOfAllKinds);
    edges.term(FAULT_3, TextEdges::closedOnesDontCount);
    edges.term("4 a CLAUSE that was there (at its first TOKEN).", TextEdges::clauseThatWasThere);
    edges.term("5 a NAME that isn't of that CLAUSE (at it).", TextEdges::nameOfAnotherClause);
    edges.term(RULE, TextEdges::ruleNone);
    edges.term(RULE, TextEdges::rulesThatArent);
  }

  private static int blanks(BoatsMoveOn x) {
    return x.feed(BLANKS, BLANKS, BLANKS, BLANKS, BLANKS);
  }

  private static void twentyBytes(Due due) {
    BoatsMoveOn x = new BoatsMoveOn();
    for (int i = 1; i <= 15; i++) {
      due.is("feed " + i, blanks(x), 20 * i);
      due.is("about(8)", x.about(8), 20 * i);
    }
    due.is("all of them blanks", x.text(), 0);
    BoatsMoveOn y = new BoatsMoveOn();
    Due.tape(y, "stay 1 ");
    due.is("behind seven bytes", blanks(y), 27);
    due.is("the first seven are as they were", y.text(), -1);
    due.is("what is wrong is the end", y.fault(1), 27);
  }

  private static void highestFirst(Due due) {
    // A byte that is no token, alone at each place in turn; 255 and 128 make numbers below 0.
    for (int at = 0; at < 20; at++) {
      for (int bad : new int[] {255, 128, 1}) {
        int[] words = {BLANKS, BLANKS, BLANKS, BLANKS, BLANKS};
        int shift = 24 - 8 * (at % 4);
        words[at / 4] = words[at / 4] & ~(255 << shift) | bad << shift;
        BoatsMoveOn x = new BoatsMoveOn();
        x.feed(words[0], words[1], words[2], words[3], words[4]);
        due.is("byte " + bad + " at " + at, x.text(), -1);
        due.is("fault(1)", x.fault(1), at);
      }
    }
    BoatsMoveOn x = new BoatsMoveOn();
    x.feed(0x6e656564, 0x2035203b, BLANKS, BLANKS, BLANKS);
    due.is("need 5 ;", x.text(), 0);
  }

  private static void fullTape(Due due) {
    BoatsMoveOn x = new BoatsMoveOn();
    for (int i = 0; i < 15; i++) {
      blanks(x);
    }
    due.is("behind 300", x.feed(0, 0, 0, 0, 0), -1);
    due.is("about(8)", x.about(8), 300);
    for (int length = 281; length <= 299; length++) {
      x.end(0);
      Due.tape(x, "need 1;" + " ".repeat(length - 7));
      due.is("behind " + length, x.feed(0, 0, 0, 0, 0), -1);
      due.is("about(8)", x.about(8), length);
    }
    due.is("none of them has come", x.text(), 0);
    Due.tape(x, " ".repeat(280));
    due.is("behind 280", x.feed(BLANKS, BLANKS, BLANKS, BLANKS, 0x20202021), 300);
    due.is("they have come", x.text(), -1);
    due.is("the last of them, too", x.fault(1), 299);
  }

  private static void firstBytesAlone(Due due) {
    BoatsMoveOn x = new BoatsMoveOn();
    due.is("0 of none", x.end(0), 0);
    Due.tape(x, "need 1; stay 1; !!!!");
    due.is("all it has", x.end(20), 20);
    due.is("about(8)", x.about(8), 20);
    due.is("fifteen", x.end(15), 15);
    due.is("about(8)", x.about(8), 15);
    due.is("those cut off aren't read", x.text(), 0);
    Due.tape(x, "need 1; stay !!!!");
    x.end(13);
    // "1; " and blanks: they come behind the thirteen, not behind the seventeen.
    due.is("what comes behind them", x.feed(0x313b2020, BLANKS, BLANKS, BLANKS, BLANKS), 33);
    due.is("is read behind them", x.text(), 1);
    Due.tape(x, "!!!!");
    due.is("none", x.end(0), 0);
    due.is("about(8)", x.about(8), 0);
    due.is("an empty text", x.text(), 2);
  }

  private static void wrongEnds(Due due) {
    BoatsMoveOn x = new BoatsMoveOn();
    due.is("end(1) of none", x.end(1), -1);
    due.is("end(-1) of none", x.end(-1), -1);
    Due.tape(x, "need 1;");
    List<Integer> before = Scene.counts(x);
    for (int n : new int[] {8, 9, 20, 300, 301, -1, -7, MIN, MAX}) {
      due.is("end(" + n + ") of seven", x.end(n), -1);
    }
    due.is("refused, nothing changed:", Scene.counts(x), before);
    due.is("the seven are as they were", x.text(), 0);
    due.is("end(7) when they are gone", x.end(7), -1);
  }

  private static void emptyThen(Due due) {
    BoatsMoveOn x = new BoatsMoveOn();
    due.is("an empty tape", x.text(), 0);
    due.is("about(7)", x.about(7), 1);
    Due.tape(x, "need 1;");
    due.is("a text", x.text(), 1);
    due.is("the tape is empty", x.about(8), 0);
    due.is("it was read once: this is an empty one", x.text(), 2);
    Due.tape(x, "stay 1;");
    due.is("another clause, so no fault of a rest", x.text(), 3);
    due.is("the tape is empty", x.about(8), 0);
  }

  private static void noTextByAFault(Due due) {
    BoatsMoveOn x = Scene.row(2, 5, 10, 0);
    due.is("text 0", Due.tell(x, "near 1 = 1;"), 0);
    for (int i = 0; i < 5; i++) {
      due.is("a fault", Due.tell(x, "near 1 = 2; near"), -1);
      due.is("the tape is empty", x.about(8), 0);
      due.is("no text more", x.about(7), 1);
      due.is("nor is it a rule", x.round(1, 0), -1);
    }
    due.is("text 0 is as it was", x.round(0, 0), 3);
    due.is("the next one has the next number", Due.tell(x, "stay 1;"), 1);
    due.is("and nothing of those that had a fault", x.round(1, 0), 1);
    String sum = "1" + "+1".repeat(140);
    for (int i = 0; i < 4; i++) {
      due.is("a long one in vain", Due.tell(x, "near " + sum + "=1; near"), -1);
    }
    due.is("as long a one without a fault", Due.tell(x, "near " + sum + "=141;"), 2);
    due.is("is whole", x.round(2, 0), 3);
    due.is("more of it in vain", Due.tell(x, "near not 1=1; near"), -1);
    due.is("less of it without a fault", Due.tell(x, "near 1=1;"), 3);
    due.is("ends where it ends", x.round(3, 0), 3);
  }

  private static void fifthText(Due due) {
    BoatsMoveOn x = Scene.row(2, 5, 10, 0);
    for (int i = 0; i < 3; i++) {
      Due.tell(x, "");
    }
    x.image();
    due.is("the fourth", Due.tell(x, "near 1 = 1;"), 3);
    Due.tape(x, "near 1 = 2;");
    List<Integer> before = Scene.counts(x);
    due.is("a fifth", x.text(), -1);
    due.is("refused, nothing changed:", Scene.counts(x), before);
    due.is("the tape stays", x.about(8), 11);
    due.is("rule 4 isn't", x.round(4, 0), -1);
    due.is("the fourth is as it was", x.round(3, 0), 3);
    x.end(0);
    Due.tape(x, "near");
    due.is("a fifth that would have a fault", x.text(), -1);
    due.is("the tape stays", x.about(8), 4);
    due.is("it wasn't read", x.fault(0), 0);
    x.end(0);
    Due.tape(x, "near 1 = 2;");
    x.back();
    due.is("there is room again", x.text(), 3);
    due.is("it is the tape that stayed", x.round(3, 0), 1);
  }

  private static void latestFault(Due due) {
    BoatsMoveOn x = new BoatsMoveOn();
    Due.tell(x, "  !");
    due.is("fault(0)", x.fault(0), 1);
    due.is("fault(1)", x.fault(1), 2);
    Due.tell(x, "!");
    due.is("the latest one's place", x.fault(1), 0);
    Due.tell(x, "");
    due.is("0 without", x.fault(0), 0);
    due.is("NONE without", x.fault(1), -1);
    Due.tell(x, "stay 10000;");
    due.is("fault(0)", x.fault(0), 2);
    due.is("asking leaves it", x.fault(0), 2);
    Due.tape(x, "near");
    due.is("what is on the tape wasn't read", x.fault(0), 2);
    due.is("fault(1)", x.fault(1), 5);
    due.is("read", x.text(), -1);
    due.is("fault(0)", x.fault(0), 1);
    due.is("fault(1)", x.fault(1), 4);
  }

  private static void noFaultYet(Due due) {
    BoatsMoveOn x = new BoatsMoveOn();
    due.is("ahead of any: fault(0)", x.fault(0), -1);
    due.is("ahead of any: fault(1)", x.fault(1), -1);
    x.feed(0, 0, 0, 0, 0);
    x.end(3);
    x.image();
    x.back();
    due.is("still: fault(0)", x.fault(0), -1);
    x.text();
    for (int what : new int[] {-1, 2, 3, MIN, MAX}) {
      due.is("fault(" + what + ")", x.fault(what), -1);
    }
    due.is("fault(0)", x.fault(0), 1);
    due.is("fault(1)", x.fault(1), 0);
  }

  private static void roundBits(Due due) {
    BoatsMoveOn x = Scene.row(10, 5, 10, 0);
    Due.tell(x, "near 1 = 1;");
    Due.tell(x, "near there = 9;");
    due.is("all ten", x.round(0, 0), 1023);
    due.is("all ten", x.round(0, 9), 1023);
    due.is("the first and the last", x.round(1, 0), 513);
    due.is("the last alone", x.round(1, 9), 512);
    BoatsMoveOn y = Scene.row(1, 5, 10, 0);
    Due.tell(y, "near 1 = 1;");
    due.is("no other place", y.round(0, 0), 1);
  }

  private static void wrongRounds(Due due) {
    BoatsMoveOn x = Scene.row(2, 5, 10, 0);
    Due.tell(x, "near 1 = 1;");
    for (int rule : new int[] {-2, 1, 4, MIN, MAX}) {
      due.is("round(" + rule + ", 0)", x.round(rule, 0), -1);
    }
    for (int place : new int[] {-1, 2, 10, 32, MIN, MAX}) {
      due.is("round(0, " + place + ")", x.round(0, place), -1);
      due.is("round(-1, " + place + ")", x.round(-1, place), -1);
    }
  }

  private static void fourTexts(Due due) {
    BoatsMoveOn x = Scene.row(5, 5, 10, 0);
    for (int i = 0; i < 4; i++) {
      due.is("rule " + i + " isn't told", x.round(i, 0), -1);
      due.is("text " + i, Due.tell(x, "near there = " + (i + 1) + ";"), i);
    }
    for (int i = 0; i < 4; i++) {
      due.is("rule " + i, x.round(i, 0), 1 | 1 << (i + 1));
    }
    due.is("rule 4", x.round(4, 0), -1);
  }

  private static void texts300BytesLong(Due due) {
    due.fault(" ".repeat(300), 0, -1);
    due.fault("stay 1" + " ".repeat(293) + ";", 0, -1);
    due.fault("stay 1;" + " ".repeat(292) + "!", 1, 299);
    due.fault("stay " + "0".repeat(290) + "9999;", 0, -1);
    due.fault("stay 1" + "0".repeat(294), 2, 5);
    // As many numbers and signs as a text can hold, and what they come to.
    BoatsMoveOn x = Scene.row(2, 5, 10, 0);
    due.is("a long sum", Due.tell(x, "near 1" + "+1".repeat(144) + "=145;"), 0);
    due.is("is worked out to its end", x.round(0, 0), 3);
    due.is("a long product", Due.tell(x, "near 3" + "*1".repeat(145) + "=3;"), 1);
    due.is("is worked out to its end", x.round(1, 0), 3);
    due.is("many asked", Due.tell(x, "near 1=2" + " or 1=2".repeat(40) + " or 1=1;"), 2);
    due.is("are all looked at", x.round(2, 0), 3);
    due.is("many asked", Due.tell(x, "near 1=1" + " and 1=1".repeat(34) + " and 1=2;"), 3);
    due.is("are all looked at", x.round(3, 0), 1);
  }

  private static void firstFaultCounts(Due due) {
    due.fault("stay 10000 there;", 2, 5);
    due.fault("stay there 10000;", 5, 5);
    due.fault("stay 1; stay 10000;", 4, 8);
    due.fault("stay 10000; stay 1;", 2, 5);
    due.fault("stay ((((((((( there;", 3, 13);
    due.fault("stay there (((((((((;", 5, 5);
    due.fault("! stay 10000;", 1, 0);
    due.fault("stay 1;! stay 10000;", 1, 7);
    // A bracket that is missing is come to only behind what stands in it.
    due.fault("stay (10000;", 2, 6);
    due.fault("stay (1;", 1, 7);
  }

  private static void firstByteOfTheToken(Due due) {
    due.fault("\n  !", 1, 3);
    due.fault("   nearer 1=1;", 1, 3);
    due.fault("near 1 =  <= 2;", 1, 10);
    due.fault("stay  \n 123456;", 2, 8);
    due.fault("stay  \n theirs;", 5, 8);
    due.fault("stay 1;  \nstay 1;", 4, 10);
    due.fault("need 1 needs", 1, 7);
    due.fault("stay 1 000001;", 1, 7);
  }

  private static void endAtTheLength(Due due) {
    due.fault("near", 1, 4);
    due.fault("near   ", 1, 7);
    due.fault("near\n\n", 1, 6);
    due.fault("stay 1", 1, 6);
    due.fault("stay 1  ", 1, 8);
    due.fault("stay (1", 1, 7);
    due.fault("stay 1 +", 1, 8);
    due.fault("near 1", 1, 6);
    due.fault("near 1 =", 1, 8);
    due.fault("near not", 1, 8);
    due.fault("near 1=1 or", 1, 11);
    due.fault("near" + " ".repeat(296), 1, 300);
    BoatsMoveOn x = new BoatsMoveOn();
    Due.tape(x, "stay 1;   ");
    x.end(6);
    due.is("the length is that of the cut tape", x.text(), -1);
    due.is("fault(1)", x.fault(1), 6);
  }

  private static void leastOfOneToken(Due due) {
    due.fault("stay 1 10000;", 1, 7);
    due.fault("10000", 1, 0);
    due.fault("stay 1 there;", 1, 7);
    due.fault("there", 1, 0);
    due.fault("stay 1; there", 1, 8);
    due.fault("stay 1 stay 1;", 1, 7);
    due.fault("stay stay", 1, 5);
    due.fault("stay ((((((((1(", 1, 14);
    due.fault("stay ((((((((not", 1, 13);
    due.fault("near 1=not 1;", 1, 7);
    due.fault("near not not not not not not not not 1=not 1;", 1, 39);
  }

  private static void numberAbove9999(Due due) {
    due.fault("stay 9999;", 0, -1);
    due.fault("stay 10000;", 2, 5);
    due.fault("stay 0;", 0, -1);
    due.fault("stay 09999;", 0, -1);
    due.fault("stay 010000;", 2, 5);
    due.fault("stay -10000;", 2, 6);
    due.fault("near 1=10000;", 2, 7);
    due.fault("need (10000);", 2, 6);
    // Such as would be small again if they were counted round.
    due.fault("stay 4294967296;", 2, 5);
    due.fault("stay 4294967297;", 2, 5);
    due.fault("stay 18446744073709551617;", 2, 5);
    due.fault("stay 2147483648;", 2, 5);
    due.fault("stay 9223372036854775808;", 2, 5);
  }

  private static String brackets(int count, String within) {
    return "(".repeat(count) + within + ")".repeat(count);
  }

  private static String minuses(int count) {
    return "-".repeat(count) + "1";
  }

  private static String nots(int count, String ask) {
    return "not ".repeat(count) + ask;
  }

  private static void ninthOfOneKind(Due due) {
    due.fault("stay " + brackets(8, "1") + ";", 0, -1);
    due.fault("stay " + brackets(9, "1") + ";", 3, 13);
    due.fault("stay " + minuses(8) + ";", 0, -1);
    due.fault("stay " + minuses(9) + ";", 3, 13);
    due.fault("near " + nots(8, "1=1;"), 0, -1);
    due.fault("near " + nots(9, "1=1;"), 3, 37);
    due.fault("stay " + "(".repeat(9), 3, 13);
    due.fault("stay " + "(".repeat(8), 1, 13);
    due.fault("stay " + "(".repeat(200), 3, 13);
    due.fault("stay " + "-".repeat(295), 3, 13);
    due.fault("near " + "not ".repeat(70), 3, 37);
  }

  private static void ninthOfAllKinds(Due due) {
    due.fault("stay -(-(-(-(1))));", 0, -1);
    due.fault("stay -(-(-(-(-1))));", 3, 13);
    due.fault("stay (-(-(-(-1))));", 0, -1);
    due.fault("stay (-(-(-(-(1)))));", 3, 13);
    due.fault("near " + nots(7, "-1=1;"), 0, -1);
    due.fault("near " + nots(8, "-1=1;"), 3, 37);
    due.fault("near " + nots(7, "(1)=1;"), 0, -1);
    due.fault("near " + nots(8, "(1)=1;"), 3, 37);
    // not is open around both sides.
    due.fault("near " + nots(7, "1=-1;"), 0, -1);
    due.fault("near " + nots(8, "1=-1;"), 3, 39);
    due.fault("near " + nots(8, "1=(1);"), 3, 39);
    // A minus between two isn't one of them.
    due.fault("near " + nots(8, "1-1=1-1;"), 0, -1);
    due.fault("stay " + brackets(8, "1-1") + ";", 0, -1);
    due.fault("stay " + brackets(8, "1--1") + ";", 3, 15);
  }

  private static void closedOnesDontCount(Due due) {
    due.fault("stay " + brackets(8, "1") + "+" + brackets(8, "1") + ";", 0, -1);
    due.fault("stay " + brackets(7, "(1)+(1)") + ";", 0, -1);
    due.fault("stay " + brackets(7, "(1)+((1))") + ";", 3, 17);
    // The first minus behind the one is between two, eight more are of one.
    due.fault("stay " + minuses(8) + "-" + minuses(8) + ";", 0, -1);
    due.fault("stay " + minuses(8) + "-" + minuses(9) + ";", 3, 23);
    due.fault("stay " + minuses(8) + "*" + minuses(8) + ";", 0, -1);
    due.fault("stay " + minuses(8) + "*" + minuses(9) + ";", 3, 23);
    due.fault("near " + nots(8, "1=1 and ") + nots(8, "1=1;"), 0, -1);
    due.fault("near " + nots(8, "1=1 or ") + minuses(8) + "=" + minuses(8) + ";", 0, -1);
    due.fault("near " + nots(8, "1=1;") + "stay " + brackets(8, "1") + ";", 0, -1);
  }

  private static void clauseThatWasThere(Due due) {
    String[] clauses = {"near 1=1;", "stay 1;", "excuse 1=1;", "need 1;"};
    for (String clause : clauses) {
      due.fault(clause + clause, 4, clause.length());
      String word = clause.substring(0, clause.indexOf(' '));
      due.fault(clause + " " + word, 4, clause.length() + 1);
      due.fault(clause + word + " !", 4, clause.length());
      String others = String.join("", clauses);
      due.fault(others + clause, 4, others.length());
    }
    BoatsMoveOn x = new BoatsMoveOn();
    due.is("a clause", Due.tell(x, "near 1=1;"), 0);
    due.is("what was in the text ahead isn't there", Due.tell(x, "near 1=1;"), 1);
    due.is("a fault behind it", Due.tell(x, "stay 1; need"), -1);
    due.is("nor what was in one with a fault", Due.tell(x, "stay 1; need 1;"), 2);
  }

  private static void nameOfAnotherClause(Due due) {
    String[] names = {"here", "parish", "there", "theirs", "miles", "day", "days"};
    String[] clauses = {"near 1=", "stay ", "excuse 1=", "need "};
    String[] of = {"yyyyynn", "yynnnnn", "yynnnyn", "nnnnnny"};
    for (int clause = 0; clause < clauses.length; clause++) {
      for (int name = 0; name < names.length; name++) {
        boolean is = of[clause].charAt(name) == 'y';
        int at = clauses[clause].length();
        due.fault(clauses[clause] + names[name] + ";", is ? 0 : 5, is ? -1 : at);
        due.fault(clauses[clause] + "-(" + names[name] + ");", is ? 0 : 5, is ? -1 : at + 2);
      }
    }
    due.fault("near miles<1;stay miles;", 5, 18);
    due.fault("excuse day=1;need day;", 5, 18);
  }

  private static void ruleNone(Due due) {
    BoatsMoveOn x = Scene.still(1);
    x.seen(0, 0, 0, 0);
    x.seen(0, 0, 13, 13);
    Due.tell(x, "near 1=1; stay 0; excuse 1=1; need 0;");
    Due.tell(x, "");
    for (int rule : new int[] {-1, 1}) {
      due.is("near is asked by no clause", x.round(rule, 0), 1);
      due.is("nor is stay: fourteen", x.over(0, 0, rule, 13), 0);
      due.is("nor excuse", x.longest(0, 0, rule, 13, 0), 14);
      due.is("nor need: twenty", x.shortOf(0, rule, 13), 2);
      due.is("broken", x.broken(0, rule, 13), 1);
    }
    due.is("near", x.round(0, 0), 3);
    due.is("stay 0, and all excused", x.over(0, 0, 0, 13), 0);
    due.is("excuse", x.longest(0, 0, 0, 13, 1), 0);
    due.is("need", x.shortOf(0, 0, 13), 0);
    due.is("not broken", x.broken(0, 0, 13), 0);
    due.is("a letter by none", x.send(0, -1, 13), 1);
  }

  private static void rulesThatArent(Due due) {
    BoatsMoveOn x = Scene.still(1);
    x.seen(0, 0, 0, 0);
    Due.tell(x, "stay 1;");
    List<Integer> before = Scene.counts(x);
    for (int rule : new int[] {-2, 1, 2, 4, MIN, MAX}) {
      due.is("round by " + rule, x.round(rule, 0), -1);
      due.is("over by " + rule, x.over(0, 0, rule, 0), -1);
      due.is("longest by " + rule, x.longest(0, 0, rule, 0, 0), -1);
      due.is("shortOf by " + rule, x.shortOf(0, rule, 0), -1);
      due.is("broken by " + rule, x.broken(0, rule, 0), -1);
      due.is("send by " + rule, x.send(0, rule, 0), -1);
    }
    due.is("refused, nothing changed:", Scene.counts(x), before);
  }
}
