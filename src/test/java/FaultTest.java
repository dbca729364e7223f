import java.util.ArrayDeque;
import java.util.List;
import java.util.Random;
import java.util.regex.Matcher;
import java.util.regex.Pattern;

/**
 * Random texts, many of them with a fault, read by the class and by a reader of another make: one
 * that goes through the tokens once and keeps on a stack what is open, without any recursion.
 */
public final class FaultTest {
  private static final int TEXTS = 60000;
  private static final Pattern TOKEN =
      Pattern.compile("[a-zA-Z]+|[0-9]+|<=|>=|[^ \\n]", Pattern.DOTALL);
  private static final List<String> CLAUSES = List.of("near", "stay", "excuse", "need");
  private static final List<String> NAMES =
      List.of("here", "parish", "there", "theirs", "miles", "day", "days");
  private static final List<String> COMPARISONS = List.of("<", "<=", ">", ">=", "=", "#");
  private static final List<String> PIECES =
      List.of(
          "near", "stay", "excuse", "need", "here", "parish", "there", "theirs", "miles", "day",
          "days", "or", "and", "not", "<", "<=", ">", ">=", "=", "#", "+", "-", "*", "/", "(", ")",
          ";", "0", "7", "9999", "10000", "123456789012", "x", "Here", "!", "\t", "not not not",
          "- - - -", "( ( ( (", "- ( - ( -", "\u00e9", "\u0000", "=>", "<>", "Z9z");

  private int fault = 0;
  private int at = -1;

  public static void main(String[] args) {
    Due due = new Due("FaultTest");
    Random random = new Random(7);
    int[] counts = new int[6];
    for (int i = 0; i < TEXTS && due.wrong() < 10; i++) {
      String text = text(random);
      FaultTest other = new FaultTest();
      other.read(text);
      counts[other.fault]++;
      due.fault(text, other.fault, other.at);
    }
    for (int i = 0; i < counts.length; i++) {
      due.is("fault " + i + " came often enough", counts[i] > 200, true);
    }
    due.close();
  }

  /** A right text with some pieces put in, taken out or exchanged; at most 300 bytes. */
  private static String text(Random random) {
    String right = new Rule.Maker(random).make().text();
    if (random.nextInt(6) == 0) {
      right += " " + new Rule.Maker(random).make().text();
    }
    StringBuilder out = new StringBuilder();
    Matcher tokens = TOKEN.matcher(right);
    int seldom = 1 + random.nextInt(40);
    while (tokens.find()) {
      int pick = random.nextInt(seldom + 4);
      String piece = PIECES.get(random.nextInt(PIECES.size()));
      if (pick == 0) {
        out.append(piece).append(' ').append(tokens.group());
      } else if (pick == 1) {
        out.append(piece);
      } else if (pick == 2) {
        out.append(openers(tokens.group(), random)).append(tokens.group());
      } else if (pick != 3) {
        out.append(tokens.group());
      }
      out.append(random.nextInt(12) == 0 ? "" : random.nextBoolean() ? " " : "\n");
    }
    if (random.nextInt(10) == 0) {
      out.append(PIECES.get(random.nextInt(PIECES.size())));
    }
    if (random.nextInt(10) == 0) {
      out.setLength(random.nextInt(out.length() + 1));
    }
    return out.substring(0, Math.min(300, out.length()));
  }

  /** Some that open ahead of a token, mostly such as can stand there. */
  private static String openers(String token, Random random) {
    StringBuilder out = new StringBuilder();
    boolean logic = token.equals("not") || random.nextInt(8) == 0;
    for (int i = random.nextInt(11); i > 0; i--) {
      out.append(logic ? " not " : random.nextBoolean() ? "-" : "(");
    }
    return out.toString();
  }

  private void blame(int what, int where) {
    if (fault == 0) {
      fault = what;
      at = where;
    }
  }

  private enum Wants {
    CLAUSE,
    OPERAND,
    OPERATOR
  }

  private Wants wants = Wants.CLAUSE;
  private String clause = "";
  private String clausesSeen = "";
  private boolean askBegins = false;
  private boolean rightSide = false;
  private final ArrayDeque<String> open = new ArrayDeque<>();

  private void read(String text) {
    Matcher tokens = TOKEN.matcher(text);
    while (fault == 0 && tokens.find()) {
      String token = tokens.group();
      int where = tokens.start();
      switch (wants) {
        case CLAUSE -> wantsClause(token, where);
        case OPERAND -> wantsOperand(token, where);
        default -> wantsOperator(token, where);
      }
    }
    if (wants != Wants.CLAUSE) {
      blame(1, text.length());
    }
  }

  private boolean isLogic() {
    return clause.equals("near") || clause.equals("excuse");
  }

  private void wantsClause(String token, int where) {
    if (!CLAUSES.contains(token)) {
      blame(1, where);
    } else if (clausesSeen.contains(token + " ")) {
      blame(4, where);
    } else {
      clausesSeen += token + " ";
      clause = token;
      wants = Wants.OPERAND;
      askBegins = isLogic();
      rightSide = false;
      open.clear();
    }
  }

  private void wantsOperand(String token, int where) {
    boolean opens = token.equals("(") || token.equals("-") || (token.equals("not") && askBegins);
    if (opens) {
      if (open.size() == 8) {
        blame(3, where);
      }
      open.push(token);
      askBegins = token.equals("not");
      return;
    }
    askBegins = false;
    boolean number = Character.isDigit(token.charAt(0));
    if (!number && !NAMES.contains(token)) {
      blame(1, where);
    } else if (number && tooGreat(token)) {
      blame(2, where);
    } else if (!number && !isOfClause(token)) {
      blame(5, where);
    }
    closeMinus();
    wants = Wants.OPERATOR;
  }

  private static boolean tooGreat(String digits) {
    return new java.math.BigInteger(digits).compareTo(java.math.BigInteger.valueOf(9999)) > 0;
  }

  private boolean isOfClause(String name) {
    return switch (name) {
      case "here", "parish" -> !clause.equals("need");
      case "there", "theirs", "miles" -> clause.equals("near");
      case "day" -> clause.equals("excuse");
      default -> clause.equals("need");
    };
  }

  private void closeMinus() {
    while (!open.isEmpty() && open.peek().equals("-")) {
      open.pop();
    }
  }

  private void wantsOperator(String token, int where) {
    boolean bracket = open.contains("(");
    if (token.equals(")") && bracket) {
      open.pop();
      closeMinus();
    } else if (List.of("+", "-", "*", "/").contains(token)) {
      wants = Wants.OPERAND;
    } else if (COMPARISONS.contains(token) && isLogic() && !bracket && !rightSide) {
      rightSide = true;
      wants = Wants.OPERAND;
    } else if ((token.equals("or") || token.equals("and")) && rightSide && !bracket) {
      open.clear();
      rightSide = false;
      askBegins = true;
      wants = Wants.OPERAND;
    } else if (token.equals(";") && !bracket && (rightSide || !isLogic())) {
      wants = Wants.CLAUSE;
    } else {
      blame(1, where);
    }
  }
}
