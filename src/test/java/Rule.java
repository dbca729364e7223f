import java.util.HashMap;
import java.util.List;
import java.util.Random;

/** A rule as trees, with the text that says it; made at random, within all limits. */
record Rule(Ask near, Sum stay, Ask excuse, Sum need, String text) {
  static final Rule EMPTY = new Rule(null, null, null, null, "");

  static final class Names extends HashMap<String, Integer> {
    private static final long serialVersionUID = 1L;
  }

  interface Sum {
    int value(Names names);
  }

  interface Ask {
    boolean isSo(Names names);
  }

  private static int cut(long value) {
    return (int) Math.max(-1000000, Math.min(1000000, value));
  }

  /** Writes a random rule while it makes its trees. */
  static final class Maker {
    private final Random random;
    private final StringBuilder out = new StringBuilder();
    private List<String> names;

    Maker(Random random) {
      this.random = random;
    }

    Rule make() {
      for (int i = 0; i < 1000; i++) {
        Rule rule = one();
        if (rule.text().length() <= 300) {
          return rule;
        }
      }
      return EMPTY;
    }

    private Rule one() {
      out.setLength(0);
      Ask near = null;
      Sum stay = null;
      Ask excuse = null;
      Sum need = null;
      int from = random.nextInt(4);
      int step = random.nextBoolean() ? 1 : 3;
      for (int i = 0; i < 4; i++) {
        int clause = (from + i * step) % 4;
        if (random.nextInt(4) == 0) {
          continue;
        }
        if (clause == 0) {
          say("near");
          names = List.of("here", "parish", "there", "theirs", "miles", "miles");
          near = either(0);
        } else if (clause == 1) {
          say("stay");
          names = List.of("here", "parish");
          stay = random.nextInt(3) == 0 ? sum(0) : small(6);
        } else if (clause == 2) {
          say("excuse");
          names = List.of("here", "parish", "day", "day");
          excuse = either(0);
        } else {
          say("need");
          names = List.of("days");
          need = random.nextInt(3) == 0 ? sum(0) : small(12);
        }
        say(";");
      }
      return new Rule(near, stay, excuse, need, out.toString());
    }

    private void say(String token) {
      boolean words = out.length() > 0 && Character.isLetterOrDigit(out.charAt(out.length() - 1));
      if (words && Character.isLetterOrDigit(token.charAt(0))) {
        out.append(random.nextBoolean() ? ' ' : '\n');
      }
      // A blank less would make another token of these.
      if (token.equals("=") && out.length() > 0 && "<>".indexOf(out.charAt(out.length() - 1)) >= 0) {
        out.append(' ');
      }
      if (random.nextInt(6) == 0) {
        out.append(' ');
      }
      out.append(token);
    }

    private Sum small(int below) {
      int value = random.nextInt(below);
      say(Integer.toString(value));
      return names -> value;
    }

    private Ask either(int depth) {
      Ask left = both(depth);
      for (int more = random.nextInt(5) / 3; more > 0; more--) {
        say("or");
        Ask ahead = left;
        Ask right = both(depth);
        left = names -> ahead.isSo(names) | right.isSo(names);
      }
      return left;
    }

    private Ask both(int depth) {
      Ask left = ask(depth);
      for (int more = random.nextInt(5) / 3; more > 0; more--) {
        say("and");
        Ask ahead = left;
        Ask right = ask(depth);
        left = names -> ahead.isSo(names) & right.isSo(names);
      }
      return left;
    }

    private Ask ask(int depth) {
      if (depth < 8 && random.nextInt(5) == 0) {
        say("not");
        Ask ask = ask(depth + 1);
        return names -> !ask.isSo(names);
      }
      Sum left = sum(depth);
      String sign = List.of("<", "<=", ">", ">=", "=", "#").get(random.nextInt(6));
      say(sign);
      Sum right = sum(depth);
      return names -> {
        int l = left.value(names);
        int r = right.value(names);
        return switch (sign) {
          case "<" -> l < r;
          case "<=" -> l <= r;
          case ">" -> l > r;
          case ">=" -> l >= r;
          case "=" -> l == r;
          default -> l != r;
        };
      };
    }

    private Sum sum(int depth) {
      Sum left = product(depth);
      for (int more = random.nextInt(7) / 4; more > 0; more--) {
        boolean plus = random.nextBoolean();
        say(plus ? "+" : "-");
        Sum ahead = left;
        Sum right = product(depth);
        left = names -> {
          long l = ahead.value(names);
          long r = right.value(names);
          return cut(plus ? l + r : l - r);
        };
      }
      return left;
    }

    private Sum product(int depth) {
      Sum left = one(depth);
      for (int more = random.nextInt(7) / 4; more > 0; more--) {
        boolean times = random.nextBoolean();
        say(times ? "*" : "/");
        Sum ahead = left;
        Sum right = one(depth);
        left = names -> {
          long l = ahead.value(names);
          long r = right.value(names);
          return cut(times ? l * r : r == 0 ? 0 : l / r);
        };
      }
      return left;
    }

    private Sum one(int depth) {
      int pick = random.nextInt(12);
      if (pick == 0 && depth < 8) {
        say("(");
        Sum sum = sum(depth + 1);
        say(")");
        return sum;
      }
      if (pick == 1 && depth < 8) {
        say("-");
        Sum one = one(depth + 1);
        return names -> -one.value(names);
      }
      if (pick < 6) {
        int value = random.nextInt(10) == 0 ? random.nextInt(10000) : random.nextInt(12);
        say((random.nextInt(10) == 0 ? "00" : "") + value);
        return names -> value;
      }
      String name = names.get(random.nextInt(names.size()));
      say(name);
      return names -> names.get(name);
    }
  }
}
