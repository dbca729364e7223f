import java.util.ArrayList;
import java.util.List;

/** Boundary cases of what a text may say and what it comes to: the sentences of part II. */
final class GrammarEdges {
  private static final String TOKENS =
      "TOKENS, blanks (32, 10) aside: letters a .. z, A .. Z one behind the other (one TOKEN),"
          + " digits likewise (NUMBERS, 0 .. 9999), <= >= < > = # + - * / ( ) ; (the longest).";
  private static final String NAMES =
      "NAMES: here (a PLACE), parish (of it) in all but need; there (another PLACE), theirs"
          + " (PARISH of that), miles (between both, nothing being SHUT; 9999 without a way) in"
          + " near; day in excuse; days (how many a JOURNEY has) in need.";
  private static final String FROM_THE_LEFT =
      "From the left; / cuts towards 0, by 0 it is 0; what is above 1000000 (below the same less)"
          + " is that, at each step.";
  private static final String CLAUSES =
      "{CLAUSE}, each at most once: near EITHER ; or stay SUM ; or excuse EITHER ; or need SUM ;.";

  private GrammarEdges() {}

  static void addTo(Edges edges) {
    edges.term(TOKENS, GrammarEdges::eachByte);
    edges.term(TOKENS, GrammarEdges::blanksAside);
    edges.term(TOKENS, GrammarEdges::oneBehindTheOther);
    edges.term(TOKENS, GrammarEdges::theLongest);
    edges.term(CLAUSES, GrammarEdges::eachAtMostOnce);
    edges.term(CLAUSES, GrammarEdges::eitherOrSum);
    edges.term("EITHER: BOTH {or BOTH}.", GrammarEdges::either);
    edges.term("BOTH: ASK {and ASK}.", GrammarEdges::both);
    edges.term(
        "ASK: not ASK, or SUM one of < <= > >= = # (unlike) SUM.", GrammarEdges::comparisons);
    edges.term("ASK: not ASK, or SUM one of < <= > >= = # (unlike) SUM.", GrammarEdges::nots);
    edges.term("SUM: PRODUCT {+ or - PRODUCT}.", GrammarEdges::sums);
    edges.term("PRODUCT: ONE {* or / ONE}.", GrammarEdges::products);
    edges.term("ONE: NUMBER, NAME, ( SUM ), - ONE.", GrammarEdges::ones);
    edges.term(NAMES, GrammarEdges::placesAndParishes);
    edges.term(NAMES, GrammarEdges::milesBetween);
    edges.term(NAMES, GrammarEdges::daysAsNamed);
    edges.term(FROM_THE_LEFT, GrammarEdges::fromTheLeft);
    edges.term(FROM_THE_LEFT, GrammarEdges::cutTowardsZero);
    edges.term(FROM_THE_LEFT, GrammarEdges::byZero);
    edges.term(FROM_THE_LEFT, GrammarEdges::aboveAMillion);
    edges.term("or and and look at both sides always.", GrammarEdges::bothSides);
  }

  /** Whether an ask is so, as near tells it. */
  private static void ask(Due due, String ask, boolean want) {
    BoatsMoveOn x = Scene.row(2, 5, 10, 0);
    due.is("text near " + ask + ";", Due.tell(x, "near " + ask + ";"), 0);
    due.is(ask, x.round(0, 0), want ? 3 : 1);
  }

  /** What a sum comes to: it is that, and neither less nor more. */
  private static void sum(Due due, String sum, int want) {
    String left = sum;
    int right = want;
    // A number has four digits at most, so of greater sums only what is above 999900 is compared.
    if (want > 9999) {
      left = "(" + sum + ") - 9999*100";
      right = want - 999900;
    } else if (want < -9999) {
      left = "(" + sum + ") + 9999*100";
      right = want + 999900;
    }
    ask(due, left + " = " + right, true);
    ask(due, left + " < " + right, false);
    ask(due, left + " > " + right, false);
  }

  /** Each byte there is, behind "stay 1": what it makes of it tells which token it is of. */
  private static void eachByte(Due due) {
    for (int sign = 0; sign < 256; sign++) {
      String text = "stay 1" + (char) sign + ";";
      if (sign == 32 || sign == 10 || (sign >= '0' && sign <= '9')) {
        due.fault(text, 0, -1);
      } else if ("+-*/;".indexOf(sign) >= 0) {
        due.fault(text, 1, 7);
      } else {
        due.fault(text, 1, 6);
      }
      boolean letter = (sign >= 'a' && sign <= 'z') || (sign >= 'A' && sign <= 'Z');
      boolean blank = sign == 32 || sign == 10;
      // A letter makes another word of it; all else leaves the word, and may follow it or not.
      if (letter) {
        due.fault("stay" + (char) sign + "1;", 1, 0);
      } else if (blank || sign == '-' || (sign >= '0' && sign <= '9')) {
        due.fault("stay" + (char) sign + "1;", 0, -1);
      } else {
        due.fault("stay" + (char) sign + "1;", 1, sign == '(' ? 6 : 4);
      }
    }
  }

  private static void blanksAside(Due due) {
    due.fault("", 0, -1);
    due.fault(" ", 0, -1);
    due.fault("\n", 0, -1);
    due.fault("stay1;", 0, -1);
    due.fault("near 1=1or 1=1and 1=1;", 0, -1);
    due.fault("\n near \n 1 \n = \n ( \n 1 \n ) \n ; \n", 0, -1);
    due.fault("\t", 1, 0);
    due.fault("\r", 1, 0);
    due.fault("stay 1;\r\n", 1, 7);
    due.fault("st ay 1;", 1, 0);
    due.fault("stay 1 2;", 1, 7);
    due.fault("stay 99 99;", 1, 8);
  }

  private static void oneBehindTheOther(Due due) {
    due.fault("stayneed 1;", 1, 0);
    due.fault("Stay 1;", 1, 0);
    due.fault("STAY 1;", 1, 0);
    due.fault("stay herE;", 1, 5);
    due.fault("stay hereparish;", 1, 5);
    due.fault("near notnot 1=1;", 1, 5);
    due.fault("near not1=1;", 0, -1);
    due.fault("stay 1here;", 1, 6);
    due.fault("stay here1;", 1, 9);
    due.fault("sta 1;", 1, 0);
    due.fault("need day;", 5, 5);
    due.fault("need days;", 0, -1);
    due.fault("need dayss;", 1, 5);
    due.fault("stay 0009999;", 0, -1);
    due.fault("stay 12345;", 2, 5);
    due.fault("stay " + "z".repeat(295), 1, 5);
    due.fault("a".repeat(300), 1, 0);
  }

  private static void theLongest(Due due) {
    due.fault("near 1<=1;", 0, -1);
    due.fault("near 1>=1;", 0, -1);
    due.fault("near 1< =1;", 1, 8);
    due.fault("near 1> =1;", 1, 8);
    due.fault("near 1<\n=1;", 1, 8);
    due.fault("near 1=<1;", 1, 7);
    due.fault("near 1=>1;", 1, 7);
    due.fault("near 1<>1;", 1, 7);
    due.fault("near 1==1;", 1, 7);
    due.fault("near 1<==1;", 1, 8);
    due.fault("near 1#=1;", 1, 7);
    ask(due, "1<=1", true);
    ask(due, "1>=1", true);
    BoatsMoveOn x = new BoatsMoveOn();
    Due.tape(x, "near 1<=1;");
    x.end(7);
    due.is("what was cut off doesn't make it longer", x.text(), -1);
    due.is("fault(1)", x.fault(1), 7);
  }

  private static void eachAtMostOnce(Due due) {
    List<String> clauses = List.of("near 1=1;", "stay 1;", "excuse 1=1;", "need 1;");
    due.fault("", 0, -1);
    List<String> orders = new ArrayList<>();
    addOrders(clauses, "", orders);
    due.is("orders of none to four clauses", orders.size(), 1 + 4 + 12 + 24 + 24);
    for (String order : orders) {
      due.fault(order, 0, -1);
      for (String clause : clauses) {
        boolean wasThere = order.contains(clause);
        due.fault(order + clause, wasThere ? 4 : 0, wasThere ? order.length() : -1);
      }
    }
  }

  private static void addOrders(List<String> left, String begun, List<String> orders) {
    orders.add(begun);
    for (String next : left) {
      List<String> rest = new ArrayList<>(left);
      rest.remove(next);
      addOrders(rest, begun + next, orders);
    }
  }

  private static void eitherOrSum(Due due) {
    due.fault("near ;", 1, 5);
    due.fault("stay ;", 1, 5);
    due.fault("excuse ;", 1, 7);
    due.fault("need ;", 1, 5);
    due.fault("near 1;", 1, 6);
    due.fault("excuse 1;", 1, 8);
    due.fault("stay 1=1;", 1, 6);
    due.fault("need 1=1;", 1, 6);
    due.fault("stay not 1=1;", 1, 5);
    due.fault("need 1 or 1;", 1, 7);
    due.fault("near 1=1", 1, 8);
    due.fault("near 1=1 stay 1;", 1, 9);
    due.fault("stay 1;;", 1, 7);
    due.fault(";", 1, 0);
    due.fault("here;", 1, 0);
    due.fault("stay 1; 1;", 1, 8);
  }

  private static void either(Due due) {
    ask(due, "1=1", true);
    ask(due, "1=2", false);
    ask(due, "1=2 or 1=2", false);
    ask(due, "1=1 or 1=2", true);
    ask(due, "1=2 or 1=1", true);
    ask(due, "1=2 or 1=2 or 1=2 or 1=1", true);
    ask(due, "1=1 or 1=1 and 1=2", true);
    ask(due, "1=2 and 1=1 or 1=1", true);
    due.fault("near or 1=1;", 1, 5);
    due.fault("near 1=1 or;", 1, 11);
    due.fault("near 1=1 or or 1=1;", 1, 12);
    due.fault("near (1=1 or 1=1);", 1, 7);
  }

  private static void both(Due due) {
    ask(due, "1=1 and 1=1", true);
    ask(due, "1=1 and 1=2", false);
    ask(due, "1=2 and 1=1", false);
    ask(due, "1=2 and 1=2", false);
    ask(due, "1=1 and 1=1 and 1=1 and 1=2", false);
    ask(due, "1=1 and 1=2 or 1=1 and 1=1", true);
    due.fault("near and 1=1;", 1, 5);
    due.fault("near 1=1 and;", 1, 12);
    due.fault("near 1=1 and or 1=1;", 1, 13);
    due.fault("near 1=1 and 1;", 1, 14);
  }

  private static void comparisons(Due due) {
    String[] signs = {"<", "<=", ">", ">=", "=", "#"};
    // For each sign whether it is so of 1 and 2, of 2 and 2, and of 3 and 2.
    String[] want = {"ynn", "yyn", "nny", "nyy", "nyn", "yny"};
    for (int sign = 0; sign < signs.length; sign++) {
      for (int left = 1; left <= 3; left++) {
        boolean is = want[sign].charAt(left - 1) == 'y';
        ask(due, left + signs[sign] + "2", is);
        ask(due, (left - 2) + signs[sign] + "0", is);
        ask(due, "-" + (4 - left) + signs[sign] + "-2", is);
        ask(due, "not " + left + signs[sign] + "2", !is);
        ask(due, left + signs[sign] + "2 and 1=1", is);
        ask(due, "1=2 or " + left + signs[sign] + "2", is);
      }
    }
    due.fault("near 1=1=1;", 1, 8);
    due.fault("near 1<2<3;", 1, 8);
    due.fault("near =1;", 1, 5);
    due.fault("near 1=;", 1, 7);
  }

  private static void nots(Due due) {
    ask(due, "not 1=1", false);
    ask(due, "not 1=2", true);
    ask(due, "not not 1=1", true);
    ask(due, "not not not not not not not not 1=1", true);
    ask(due, "not 1=2 and 1=2", false);
    ask(due, "not 1=1 or 1=1", true);
    ask(due, "1=1 and not 1=2", true);
    due.fault("near not;", 1, 8);
    due.fault("near not 1;", 1, 10);
    due.fault("near 1 not = 1;", 1, 7);
    due.fault("near 1=not 1;", 1, 7);
    due.fault("near not and 1=1;", 1, 9);
  }

  private static void sums(Due due) {
    sum(due, "5", 5);
    sum(due, "1+2", 3);
    sum(due, "1-2", -1);
    sum(due, "1+2*3", 7);
    sum(due, "10-2*3", 4);
    sum(due, "1+1-1+1-1", 1);
    due.fault("stay +1;", 1, 5);
    due.fault("stay 1+;", 1, 7);
    due.fault("stay 1++1;", 1, 7);
    due.fault("stay 1+-1;", 0, -1);
    due.fault("stay 1--1;", 0, -1);
    due.fault("stay 1-+1;", 1, 7);
    due.fault("stay 1 1;", 1, 7);
  }

  private static void products(Due due) {
    sum(due, "2*3", 6);
    sum(due, "7/2", 3);
    sum(due, "2*3*4", 24);
    sum(due, "-2*-3", 6);
    due.fault("stay *1;", 1, 5);
    due.fault("stay /1;", 1, 5);
    due.fault("stay 1*;", 1, 7);
    due.fault("stay 1/;", 1, 7);
    due.fault("stay 1*/1;", 1, 7);
    due.fault("stay 1**1;", 1, 7);
    due.fault("stay 1*+1;", 1, 7);
    due.fault("stay 1*-1;", 0, -1);
  }

  private static void ones(Due due) {
    sum(due, "0", 0);
    sum(due, "9999", 9999);
    sum(due, "(1+2)*3", 9);
    sum(due, "((((((((7))))))))", 7);
    sum(due, "-5", -5);
    sum(due, "--5", 5);
    sum(due, "-(2-9)", 7);
    sum(due, "-0", 0);
    // The minus is of one ONE, not of the product.
    sum(due, "-7/2*2", -6);
    sum(due, "here", 0);
    due.fault("stay ();", 1, 6);
    due.fault("stay (1;", 1, 7);
    due.fault("stay 1);", 1, 6);
    due.fault("stay (1));", 1, 8);
    due.fault("stay -;", 1, 6);
    due.fault("stay (1=1);", 1, 7);
    due.fault("stay near;", 1, 5);
    due.fault("stay or;", 1, 5);
    due.fault("stay x;", 1, 5);
  }

  private static void placesAndParishes(Due due) {
    BoatsMoveOn x = new BoatsMoveOn();
    for (int i = 0; i < 10; i++) {
      x.place(9 - i);
    }
    x.pace(1);
    x.boat();
    x.boat();
    Due.tell(x, "near here = 9 and parish = 0 and there = 0 and theirs = 9;");
    due.is("here is 9, there 0", x.round(0, 9), 513);
    due.is("here is 0, there 9", x.round(0, 0), 1);
    Due.tell(x, "excuse here = 9 and parish = 0;");
    Due.tell(x, "stay here * 2 + parish;");
    x.seen(0, 9, 0, 0);
    x.seen(0, 9, 18, 18);
    x.seen(1, 0, 0, 0);
    x.seen(1, 0, 9, 9);
    due.is("excused where here is 9", x.longest(0, 9, 1, 59, 1), 0);
    due.is("not where here is 0", x.longest(1, 0, 1, 59, 1), 10);
    due.is("19 days are over 9 * 2 + 0", x.over(0, 9, 2, 59), 2);
    due.is("10 days are over 0 * 2 + 9", x.over(1, 0, 2, 59), 2);
    x.excuse(0, 18, 18, 0);
    x.excuse(1, 9, 9, 0);
    due.is("18 days aren't", x.over(0, 9, 2, 59), 0);
    due.is("9 days aren't", x.over(1, 0, 2, 59), 0);
    due.fault("need here;", 5, 5);
    due.fault("need parish;", 5, 5);
  }

  private static void milesBetween(Due due) {
    BoatsMoveOn x = Scene.row(3, 30, 1, 0);
    x.place(0);
    x.shut(0, 0, 59);
    x.shut(1, 0, 59);
    Due.tell(x, "near miles = 30;");
    due.is("30, all being shut", x.round(0, 0), 3);
    Due.tell(x, "near miles = 60;");
    due.is("60 over another place", x.round(1, 0), 5);
    Due.tell(x, "near miles = 9999;");
    due.is("9999 without a way", x.round(2, 0), 9);
    due.is("9999 without a way, from there", x.round(2, 3), 15);
    Due.tell(x, "near miles > 9998 or miles = 0;");
    due.is("neither 9998 nor 0", x.round(3, 3), 15);
    x.way(0, 3, 1);
    due.is("a way that comes later", x.round(2, 0), 1);
  }

  private static void daysAsNamed(Due due) {
    BoatsMoveOn x = Scene.still(1);
    x.seen(0, 0, 0, 0);
    x.seen(0, 0, 59, 59);
    Due.tell(x, "excuse day = 0;");
    Due.tell(x, "excuse day = 59 or day < 0 or day > 59;");
    due.is("day 0 is one", x.longest(0, 0, 0, 59, 1), 59);
    due.is("day 59 is one", x.longest(0, 0, 1, 59, 1), 59);
    // A mile from each day to the next, so that it goes one less than it has days.
    BoatsMoveOn y = Scene.row(2, 1, 1, 2);
    Due.tell(y, "need days - 1;");
    Due.tell(y, "need days;");
    for (int day = 5; day < 60; day++) {
      y.seen(0, day % 2, day, day);
    }
    Scene.seenDaily(y, 1, 50, 0, 1, 0, 1, 0);
    due.is("five days from 50 on: need 4", y.shortOf(1, 0, 59), 0);
    due.is("five days from 50 on: need 5", y.shortOf(1, 1, 59), 2);
    due.is("one day: need 0", y.shortOf(1, 0, 50), 0);
    due.is("one day: need 1", y.shortOf(1, 1, 50), 2);
    due.is("55 days from 5 on: need 54", y.shortOf(0, 0, 59), 0);
    due.is("55 days from 5 on: need 55", y.shortOf(0, 1, 59), 2);
    due.fault("stay day;", 5, 5);
    due.fault("near day = 1;", 5, 5);
    due.fault("excuse days = 1;", 5, 7);
    due.fault("need day;", 5, 5);
  }

  private static void fromTheLeft(Due due) {
    sum(due, "10-3-2", 5);
    sum(due, "10-3+2", 9);
    sum(due, "100/7/2", 7);
    sum(due, "7/2*3", 9);
    sum(due, "7*3/2", 10);
    sum(due, "2*7/2*7", 49);
    sum(due, "1000*1000+1000-1000*1000", 0);
    sum(due, "1000*1000-1000+1000", 1000000);
  }

  private static void cutTowardsZero(Due due) {
    sum(due, "7/2", 3);
    sum(due, "-7/2", -3);
    sum(due, "7/-2", -3);
    sum(due, "-7/-2", 3);
    sum(due, "1/2", 0);
    sum(due, "-1/2", 0);
    sum(due, "1/-9999", 0);
    sum(due, "(0-9)/10", 0);
    sum(due, "-10/5", -2);
    sum(due, "9999/1", 9999);
  }

  private static void byZero(Due due) {
    sum(due, "5/0", 0);
    sum(due, "-5/0", 0);
    sum(due, "0/0", 0);
    sum(due, "5/(3-3)", 0);
    sum(due, "5/(1/2)", 0);
    sum(due, "5/-0", 0);
    sum(due, "5/0+3", 3);
    sum(due, "5/0/0", 0);
    sum(due, "1000*1000*1000/0", 0);
  }

  private static void aboveAMillion(Due due) {
    sum(due, "1000*1000", 1000000);
    sum(due, "1000*1000+1", 1000000);
    sum(due, "1000*1000+1-1", 999999);
    sum(due, "1000*1000-1", 999999);
    sum(due, "1000*1000-1+1", 1000000);
    sum(due, "9999*9999", 1000000);
    sum(due, "9999*9999/9999", 100);
    sum(due, "101*9901", 1000000);
    sum(due, "-1000*1000", -1000000);
    sum(due, "-1000*1000-1", -1000000);
    sum(due, "-1000*1000-1+1", -999999);
    sum(due, "-9999*9999", -1000000);
    sum(due, "-(9999*9999)", -1000000);
    sum(due, "0-1000*1000-1000*1000", -1000000);
    // A million times itself is more than an int holds.
    sum(due, "1000*1000*(1000*1000)", 1000000);
    sum(due, "1000*1000*-(1000*1000)", -1000000);
    sum(due, "-1000*1000*-(1000*1000)", 1000000);
    sum(due, "9999*9999-9999*9999", 0);
  }

  private static void bothSides(Due due) {
    ask(due, "1=1 or 1/0=1", true);
    ask(due, "1/0=1 or 1=1", true);
    ask(due, "1=2 and 1/0=0", false);
    ask(due, "1/0=0 and 1=2", false);
    // What decides it already doesn't hide a fault behind it.
    due.fault("near 1=1 or 10000=1;", 2, 12);
    due.fault("near 1=2 and day=1;", 5, 13);
    ask(due, "1=1 or 1=2 and 1=2", true);
    ask(due, "1=2 and 1=2 or 1=1", true);
  }
}
