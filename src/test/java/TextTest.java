/** Promises 9 to 12 and 14: the tape, texts, faults and what a rule counts as round a place. */
public final class TextTest {
  private static final int BLANKS = 0x20202020;

  public static void main(String[] args) {
    Due due = new Due("TextTest");
    feeding(due);
    ending(due);
    byteOrder(due);
    cutTapes(due);
    fullTapes(due);
    manyFaultsAhead(due);
    fourTexts(due);
    faultsAsked(due);
    validTexts(due);
    cantStand(due);
    otherFaults(due);
    depths(due);
    whichFault(due);
    rounds(due);
    values(due);
    due.close();
  }

  private static void feeding(Due due) {
    BoatsMoveOn x = new BoatsMoveOn();
    for (int i = 1; i <= 15; i++) {
      due.is("feed " + i, x.feed(BLANKS, BLANKS, BLANKS, BLANKS, BLANKS), 20 * i);
      due.is("about(8)", x.about(8), 20 * i);
    }
    due.is("a 16th feed", x.feed(BLANKS, BLANKS, BLANKS, BLANKS, BLANKS), -1);
    due.is("about(8)", x.about(8), 300);
    x.end(281);
    due.is("it would be 301", x.feed(BLANKS, BLANKS, BLANKS, BLANKS, BLANKS), -1);
    due.is("about(8)", x.about(8), 281);
    x.end(280);
    due.is("it is 300", x.feed(BLANKS, BLANKS, BLANKS, BLANKS, BLANKS), 300);
    due.is("300 blanks", x.text(), 0);
  }

  private static void ending(Due due) {
    BoatsMoveOn x = new BoatsMoveOn();
    due.is("end(0) of nothing", x.end(0), 0);
    due.is("end(1) of nothing", x.end(1), -1);
    x.feed(0, 0, 0, 0, 0);
    due.is("end(21)", x.end(21), -1);
    due.is("end(-1)", x.end(-1), -1);
    due.is("end(MIN)", x.end(Integer.MIN_VALUE), -1);
    due.is("end(MAX)", x.end(Integer.MAX_VALUE), -1);
    due.is("about(8)", x.about(8), 20);
    due.is("end(20)", x.end(20), 20);
    due.is("end(7)", x.end(7), 7);
    due.is("about(8)", x.about(8), 7);
    due.is("end(8)", x.end(8), -1);
    due.is("end(0)", x.end(0), 0);
  }

  private static void byteOrder(Due due) {
    // The bytes stay where they are: a fault's place tells each of them.
    for (int at = 0; at < 20; at++) {
      int[] words = {BLANKS, BLANKS, BLANKS, BLANKS, BLANKS};
      int shift = 24 - 8 * (at % 4);
      words[at / 4] = words[at / 4] & ~(255 << shift) | 0xff << shift;
      BoatsMoveOn x = new BoatsMoveOn();
      x.feed(words[0], words[1], words[2], words[3], words[4]);
      due.is("text with a bad byte at " + at, x.text(), -1);
      due.is("fault(1)", x.fault(1), at);
    }
    BoatsMoveOn x = new BoatsMoveOn();
    x.feed(BLANKS, BLANKS, BLANKS, BLANKS, 0x20206e65);
    x.feed(0x6564203b, BLANKS, BLANKS, BLANKS, BLANKS);
    due.is("a word over two feeds", x.text(), -1);
    due.is("it is need without a sum", x.fault(1), 23);
  }

  /** What end has cut off is not read, even if a token would go on there. */
  private static void cutTapes(Due due) {
    BoatsMoveOn x = new BoatsMoveOn();
    Due.tape(x, "stays 1;");
    x.end(4);
    due.is("stay alone", x.text(), -1);
    due.is("it is the end that can't stand", x.fault(1), 4);
    Due.tape(x, "stay 10000;");
    x.end(9);
    due.is("stay 1000", x.text(), -1);
    due.is("it isn't too great", x.fault(0), 1);
    due.is("it is the end that can't stand", x.fault(1), 9);
    Due.tape(x, "near 1<=2;");
    x.end(7);
    due.is("near 1<", x.text(), -1);
    due.is("it is the end that can't stand", x.fault(1), 7);
  }

  private static void fullTapes(Due due) {
    for (String last : new String[] {"a", "near", "1", "10000", "<", ">", ";", "(", " ", "\n"}) {
      String text = " ".repeat(300 - last.length()) + last;
      boolean blank = last.isBlank();
      int at = last.equals("near") ? 300 : 300 - last.length();
      due.fault(text, blank ? 0 : 1, blank ? -1 : at);
    }
    String full = "near 1=1" + " or 1=2 and 1=2".repeat(19);
    due.fault(full + " ".repeat(299 - full.length()) + ";", 0, -1);
    due.fault("stay " + "1+".repeat(146) + "10;", 0, -1);
    due.fault("stay " + "1+".repeat(147) + "1", 1, 300);
    due.fault("stay 1" + "0".repeat(294), 2, 5);
    due.fault("stay " + "0".repeat(294) + "1", 1, 300);
  }

  /** However much was read in vain, the next text is whole. */
  private static void manyFaultsAhead(Due due) {
    BoatsMoveOn x = new BoatsMoveOn();
    x.place(0);
    x.place(0);
    for (int i = 0; i < 9; i++) {
      due.is("in vain", Due.tell(x, "near 1" + "+1".repeat(140) + "=1;near"), -1);
    }
    due.is("text", Due.tell(x, "near 1" + "+1".repeat(140) + "=141;"), 0);
    due.is("round", x.round(0, 0), 3);
    due.is("text", Due.tell(x, "near 1" + "+1".repeat(140) + "=140;"), 1);
    due.is("round", x.round(1, 0), 1);
  }

  private static void fourTexts(Due due) {
    BoatsMoveOn x = new BoatsMoveOn();
    x.place(0);
    for (int i = 0; i < 4; i++) {
      due.is("text " + i, Due.tell(x, "stay " + i + ";"), i);
      due.is("about(7)", x.about(7), i + 1);
      due.is("about(8)", x.about(8), 0);
    }
    due.is("a fifth", Due.tell(x, "need 1"), -1);
    due.is("the tape stays", x.about(8), 6);
    due.is("it wasn't read", x.fault(0), 0);
    due.is("it wasn't read", x.fault(1), -1);
    due.is("about(7)", x.about(7), 4);
    due.is("round(3, 0)", x.round(3, 0), 1);
    due.is("round(4, 0)", x.round(4, 0), -1);
    due.is("still", x.text(), -1);
    due.is("the tape stays", x.about(8), 6);
  }

  private static void faultsAsked(Due due) {
    BoatsMoveOn x = new BoatsMoveOn();
    due.is("ahead of any", x.fault(0), -1);
    due.is("ahead of any", x.fault(1), -1);
    x.feed(0, 0, 0, 0, 0);
    due.is("fed, not read", x.fault(0), -1);
    due.is("twenty zeros", x.text(), -1);
    due.is("fault(0)", x.fault(0), 1);
    due.is("fault(1)", x.fault(1), 0);
    for (int what : new int[] {-1, 2, Integer.MIN_VALUE, Integer.MAX_VALUE}) {
      due.is("fault(" + what + ")", x.fault(what), -1);
    }
    due.is("an empty one", x.text(), 0);
    due.is("fault(0) without", x.fault(0), 0);
    due.is("fault(1) without", x.fault(1), -1);
    Due.tell(x, "  stay 10000;");
    due.is("fault(0)", x.fault(0), 2);
    due.is("fault(1)", x.fault(1), 7);
  }

  private static void validTexts(Due due) {
    due.fault("", 0, -1);
    due.fault(" \n \n", 0, -1);
    due.fault("near here=there;", 0, -1);
    due.fault("stay 9999;", 0, -1);
    due.fault("stay 0000009999;", 0, -1);
    due.fault("stay 0;need 8090;", 0, -1);
    due.fault("need days;stay parish*here;excuse day>3;near miles<=5;", 0, -1);
    due.fault("near\nnot\nhere<there or 1>=2 and 3#4 or not not 5=5;", 0, -1);
    due.fault("near here+1-2*3/4 > -(1--2) ;", 0, -1);
    due.fault("excuse here = parish or parish = day;", 0, -1);
    due.fault("near theirs < miles;", 0, -1);
  }

  private static void cantStand(Due due) {
    due.fault("x", 1, 0);
    due.fault("Near 1=1;", 1, 0);
    for (char letter : "azAZmM".toCharArray()) {
      due.fault("stay" + letter + " 1;", 1, 0);
      due.fault(letter + "stay 1;", 1, 0);
    }
    for (char sign : "@[`{".toCharArray()) {
      due.fault("stay" + sign + " 1;", 1, 4);
    }
    due.fault("nearhere=1;", 1, 0);
    due.fault(";", 1, 0);
    due.fault("12", 1, 0);
    due.fault("here", 1, 0);
    due.fault("near 1=1;;", 1, 9);
    due.fault("near 1=1", 1, 8);
    due.fault("near 1=1  \n", 1, 11);
    due.fault("near", 1, 4);
    due.fault("near 1;", 1, 6);
    due.fault("near 1 2", 1, 7);
    due.fault("near 1=2=3;", 1, 8);
    due.fault("near 1==2;", 1, 7);
    due.fault("near 1=<2;", 1, 7);
    due.fault("near 1< =2;", 1, 8);
    due.fault("near 1><2;", 1, 7);
    due.fault("near (1=2);", 1, 7);
    due.fault("near 1=2);", 1, 8);
    due.fault("near (1;", 1, 7);
    due.fault("near ();", 1, 6);
    due.fault("near 1 = not 2;", 1, 9);
    due.fault("near or 1=1;", 1, 5);
    due.fault("near 1=1 and;", 1, 12);
    due.fault("near 1=1 not 1=1;", 1, 9);
    due.fault("near + 1 = 1;", 1, 5);
    due.fault("near 1 + = 1;", 1, 9);
    due.fault("near 1 * / 1;", 1, 9);
    due.fault("near near;", 1, 5);
    due.fault("near 1=1 stay 1;", 1, 9);
    due.fault("near here there;", 1, 10);
    due.fault("near heres = 1;", 1, 5);
    due.fault("near 1=1 Or 2=2;", 1, 9);
    due.fault("stay 1=1;", 1, 6);
    due.fault("stay not 1;", 1, 5);
    due.fault("stay 1 or 2;", 1, 7);
    due.fault("stay ;", 1, 5);
    due.fault("need 1 <= 2;", 1, 7);
    due.fault("need 1a;", 1, 6);
    due.fault("stay 1!", 1, 6);
    due.fault("stay\t1;", 1, 4);
    due.fault("stay 1\r;", 1, 6);
    due.fault("stay 1" + (char) 0 + ";", 1, 6);
    due.fault("stay 1" + (char) 160 + ";", 1, 6);
    due.fault("stay " + (char) 225 + ";", 1, 5);
    due.fault("stay 1_0;", 1, 6);
    due.fault("stay 1@;", 1, 6);
    due.fault("stay 1[;", 1, 6);
    due.fault("stay 1`;", 1, 6);
    due.fault("stay 1{;", 1, 6);
    due.fault("stay 1:2;", 1, 6);
    due.fault("stay 1,2;", 1, 6);
    due.fault("stay 1.2;", 1, 6);
  }

  private static void otherFaults(Due due) {
    due.fault("stay 10000;", 2, 5);
    due.fault("stay 99999999999999999999999;", 2, 5);
    due.fault("stay 4294967297;", 2, 5);
    due.fault("near 1 = (2 - 10001);", 2, 14);
    due.fault("near 1=1; near 1=1;", 4, 10);
    due.fault("stay 1; stay", 4, 8);
    due.fault("excuse 1=1;\nneed 1;\nexcuse", 4, 20);
    due.fault("need 1;need 1;", 4, 7);
    due.fault("near 1=1;stay 1;excuse 1=1;need 1;stay 2;", 4, 34);
    due.fault("near 1=1;stay 1;excuse 1=1;need 1;here", 1, 34);
    String[] names = {"here", "parish", "there", "theirs", "miles", "day", "days"};
    String[] clauses = {"near 1=", "stay ", "excuse 1=", "need "};
    String[] of = {"yyyyynn", "yynnnnn", "yynnnyn", "nnnnnny"};
    for (int clause = 0; clause < clauses.length; clause++) {
      for (int name = 0; name < names.length; name++) {
        boolean fits = of[clause].charAt(name) == 'y';
        String text = clauses[clause] + names[name] + ";";
        due.fault(text, fits ? 0 : 5, fits ? -1 : clauses[clause].length());
      }
    }
  }

  private static void depths(Due due) {
    due.fault("stay ((((((((1))))))));", 0, -1);
    due.fault("stay (((((((((1)))))))));", 3, 13);
    due.fault("stay --------1;", 0, -1);
    due.fault("stay ---------1;", 3, 13);
    due.fault("stay -(-(-(-(1))));", 0, -1);
    due.fault("stay -(-(-(-(-1))));", 3, 13);
    due.fault("near notnot 1=1;", 1, 5);
    due.fault("near not not not not not not not not 1=1;", 0, -1);
    due.fault("near not not not not not not not not -1=1;", 3, 37);
    due.fault("near not not not not not not not not 1=(1);", 3, 39);
    due.fault("near not not not not (-(-1))=1;", 0, -1);
    due.fault("near not not not not (-(-(1)))=1;", 3, 25);
    // What has been closed doesn't count any more.
    due.fault("stay (((1)))+(((1)))*(((((1)))))-(((((((1)))))));", 0, -1);
    due.fault("stay ----1-----1;", 0, -1);
    due.fault("stay -------1*-------1;", 0, -1);
    due.fault("near not not not not not 1=1 and not not not not not 1=1;", 0, -1);
    due.fault("near not not not not not 1=1 and -----1=1;", 0, -1);
    due.fault("near not not not not not -----1=1;", 3, 28);
    due.fault("stay (-------1+-------1);", 0, -1);
    due.fault("stay (-------1+--------1);", 3, 22);
    due.fault("stay 1;need ((((((((1))))))));", 0, -1);
    // The ninth is there even if nothing could follow.
    due.fault("stay (((((((((", 3, 13);
    due.fault("stay ((((((((", 1, 13);
  }

  private static void whichFault(Due due) {
    // The first token that has one; of one token the least.
    due.fault("stay 1 10000;", 1, 7);
    due.fault("stay here there;", 1, 10);
    due.fault("stay there 10000;", 5, 5);
    due.fault("stay 10000 there;", 2, 5);
    due.fault("stay ((((((((1 (;", 1, 15);
    due.fault("stay ((((((((not", 1, 13);
    due.fault("near 1=1; 5 near", 1, 10);
    due.fault("near 1=1; near !", 4, 10);
    due.fault("near not not not not not not not not not !", 3, 37);
  }

  private static void rounds(Due due) {
    BoatsMoveOn x = new BoatsMoveOn();
    x.place(3);
    x.place(3);
    x.place(5);
    x.place(5);
    x.way(0, 1, 2);
    x.way(1, 2, 4);
    x.shut(0, 0, 59);
    due.is("no rule", x.round(-1, 2), 4);
    due.is("round(-2, 0)", x.round(-2, 0), -1);
    due.is("round(0, 0) without a text", x.round(0, 0), -1);
    due.is("round(-1, 4)", x.round(-1, 4), -1);
    due.is("round(-1, -1)", x.round(-1, -1), -1);
    due.is("round(MAX, MIN)", x.round(Integer.MAX_VALUE, Integer.MIN_VALUE), -1);
    due.is("text", Due.tell(x, "stay 3;"), 0);
    due.is("without near", x.round(0, 1), 2);
    due.is("text", Due.tell(x, "near miles <= 4;"), 1);
    due.is("shut ways don't matter", x.round(1, 0), 3);
    due.is("round(1, 1)", x.round(1, 1), 7);
    due.is("round(1, 2)", x.round(1, 2), 6);
    due.is("round(1, 3)", x.round(1, 3), 8);
    due.is("text", Due.tell(x, "near miles = 9999 or parish # theirs and here > there;"), 2);
    due.is("round(2, 0)", x.round(2, 0), 9);
    due.is("round(2, 2)", x.round(2, 2), 15);
    due.is("round(2, 3)", x.round(2, 3), 15);
    due.is("text", Due.tell(x, "near 1 = 2;"), 3);
    due.is("itself always", x.round(3, 1), 2);
  }

  private static void values(Due due) {
    sum(due, "1+2*3", 7);
    sum(due, "(1+2)*3", 9);
    sum(due, "10-3-2", 5);
    sum(due, "100/7/2", 7);
    sum(due, "100/(7/2)", 33);
    sum(due, "7*3/2", 10);
    sum(due, "7/2*3", 9);
    sum(due, "7-8*2+10", 1);
    sum(due, "-7/2+10", 7);
    sum(due, "7/-2+10", 7);
    sum(due, "-7/-2", 3);
    sum(due, "5/0+3", 3);
    sum(due, "0/0", 0);
    sum(due, "--5", 5);
    sum(due, "-5+6", 1);
    sum(due, "2*-3+7", 1);
    sum(due, "5--3", 8);
    sum(due, "-(2-9)", 7);
    sum(due, "9999*9999-9999*100", 100);
    sum(due, "9999*9999/9999", 100);
    sum(due, "9999*100+200-9999*100", 100);
    sum(due, "9999*100+100-9999*100", 100);
    sum(due, "9999*100+99-9999*100", 99);
    sum(due, "(0-9999*9999)/9999+101", 1);
    sum(due, "0-9999*9999-5+9999*100+101", 1);
    sum(due, "9999*-9999*-9999/9999", 100);
    ask(due, "1<2", true);
    ask(due, "2<2", false);
    ask(due, "2<=2", true);
    ask(due, "3<=2", false);
    ask(due, "2>1", true);
    ask(due, "2>2", false);
    ask(due, "2>=2", true);
    ask(due, "1>=2", false);
    ask(due, "2=2", true);
    ask(due, "2=3", false);
    ask(due, "2#3", true);
    ask(due, "2#2", false);
    ask(due, "1=1 or 1=1 and 1=2", true);
    ask(due, "1=2 and 1=1 or 1=1", true);
    ask(due, "1=2 and 1=2 or 1=2", false);
    ask(due, "not 1=2 and 1=2", false);
    ask(due, "not 1=1 or 1=1", true);
    ask(due, "not not 1=1", true);
    ask(due, "not 1=2", true);
    ask(due, "1=2 or 1=2 or 1=1", true);
    ask(due, "1=1 and 1=1 and 1=2", false);
  }

  /** The value of a sum from 0 to 10000 is seen by asking whether it is that. */
  private static void sum(Due due, String sum, int want) {
    ask(due, sum + "=" + want, true);
    ask(due, sum + "#" + want, false);
  }

  private static void ask(Due due, String question, boolean want) {
    BoatsMoveOn x = new BoatsMoveOn();
    x.place(0);
    x.place(0);
    due.is("text of " + question, Due.tell(x, "near " + question + ";"), 0);
    due.is(question, x.round(0, 0), want ? 3 : 1);
  }
}
