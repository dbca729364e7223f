import java.util.ArrayList;
import java.util.List;
import java.util.TreeSet;

/**
 * What the document says, taken word by word and slowly: every journey is written out and looked
 * at. Only for few places and days, and for texts whose rules are known as trees.
 */
final class Model {
  record Way(int one, int other, int miles) {}

  record Shut(int way, int from, int to) {}

  record Seen(int boat, int place, int day, int told) {}

  record Excuse(int boat, int from, int to, int proved) {}

  record Letter(int rule, int day) {}

  /** Journeys from one day on; none at all if it is impossible, first -1 if it was never seen. */
  record Journeys(int first, int last, List<int[]> all) {
    boolean never() {
      return first < 0;
    }

    boolean impossible() {
      return first >= 0 && all.isEmpty();
    }

    boolean none() {
      return never() || all.isEmpty();
    }

    TreeSet<Integer> may(int day) {
      TreeSet<Integer> places = new TreeSet<>();
      if (!never() && day >= first && day <= last) {
        for (int[] journey : all) {
          places.add(journey[day - first]);
        }
      }
      return places;
    }

    int doubt() {
      int sum = 0;
      for (int day = first; day <= last; day++) {
        sum += may(day).size() - 1;
      }
      return sum;
    }
  }

  private List<Integer> parishes = new ArrayList<>();
  private List<Way> ways = new ArrayList<>();
  private List<Shut> shuts = new ArrayList<>();
  private int pace = 10;
  private int boats = 0;
  private List<Seen> sightings = new ArrayList<>();
  private List<Excuse> excuses = new ArrayList<>();
  private List<Rule> rules = new ArrayList<>();
  private List<List<Letter>> letters = new ArrayList<>();
  private Model image = null;

  private Model copy() {
    Model m = new Model();
    m.take(this);
    return m;
  }

  private void take(Model from) {
    parishes = new ArrayList<>(from.parishes);
    ways = new ArrayList<>(from.ways);
    shuts = new ArrayList<>(from.shuts);
    pace = from.pace;
    boats = from.boats;
    sightings = new ArrayList<>(from.sightings);
    excuses = new ArrayList<>(from.excuses);
    rules = new ArrayList<>(from.rules);
    letters = new ArrayList<>();
    for (List<Letter> own : from.letters) {
      letters.add(new ArrayList<>(own));
    }
  }

  private static boolean within(int value, int from, int to) {
    return value >= from && value <= to;
  }

  private boolean isPlace(int place) {
    return within(place, 0, parishes.size() - 1);
  }

  private boolean isBoat(int boat) {
    return within(boat, 0, boats - 1);
  }

  private boolean isRule(int rule) {
    return within(rule, -1, rules.size() - 1);
  }

  private static boolean isDay(int day) {
    return within(day, 0, 59);
  }

  private Rule rule(int rule) {
    return rule < 0 ? Rule.EMPTY : rules.get(rule);
  }

  int place(int parish) {
    if (!within(parish, 0, 9) || parishes.size() == 10) {
      return -1;
    }
    parishes.add(parish);
    return parishes.size() - 1;
  }

  int way(int one, int other, int miles) {
    if (!isPlace(one) || !isPlace(other) || one == other) {
      return -1;
    }
    if (!within(miles, 1, 30) || ways.size() == 15) {
      return -1;
    }
    ways.add(new Way(one, other, miles));
    return ways.size() - 1;
  }

  int shut(int way, int from, int to) {
    if (!within(way, 0, ways.size() - 1) || !isDay(from) || !isDay(to) || from > to) {
      return -1;
    }
    if (shuts.size() == 10) {
      return -1;
    }
    shuts.add(new Shut(way, from, to));
    return shuts.size();
  }

  int pace(int miles) {
    if (!within(miles, 1, 60)) {
      return 0;
    }
    pace = miles;
    return 1;
  }

  int boat() {
    if (boats == 8) {
      return -1;
    }
    letters.add(new ArrayList<>());
    return boats++;
  }

  int seen(int boat, int place, int day, int told) {
    if (!isBoat(boat) || !isPlace(place) || !isDay(day) || !isDay(told) || told < day) {
      return -1;
    }
    if (sightings.size() == 60) {
      return -1;
    }
    sightings.add(new Seen(boat, place, day, told));
    return sightings.size();
  }

  int excuse(int boat, int from, int to, int proved) {
    if (!isBoat(boat) || !isDay(from) || !isDay(to) || from > to || !isDay(proved)) {
      return -1;
    }
    if (excuses.size() == 20) {
      return -1;
    }
    excuses.add(new Excuse(boat, from, to, proved));
    return excuses.size();
  }

  /** A text of which it is known that it has no fault. */
  int text(Rule rule) {
    if (rules.size() == 4) {
      return -1;
    }
    rules.add(rule);
    return rules.size() - 1;
  }

  /** The least miles, found by walking every way that doesn't come to a place again. */
  private int walk(int day, int at, int to, int been) {
    if (at == to) {
      return 0;
    }
    int best = 9999;
    for (int i = 0; i < ways.size(); i++) {
      Way way = ways.get(i);
      boolean closed = false;
      for (Shut shut : shuts) {
        closed |= shut.way() == i && within(day, shut.from(), shut.to());
      }
      int next = way.one() == at ? way.other() : way.other() == at ? way.one() : -1;
      if (!closed && next >= 0 && (been >> next & 1) == 0) {
        best = Math.min(best, way.miles() + walk(day, next, to, been | 1 << next));
      }
    }
    return Math.min(best, 9999);
  }

  private int milesOf(int day, int from, int to) {
    return walk(day, from, to, 1 << from);
  }

  int miles(int day, int from, int to) {
    if (!(day == -1 || isDay(day)) || !isPlace(from) || !isPlace(to)) {
      return -1;
    }
    int miles = milesOf(day, from, to);
    return miles == 9999 ? -1 : miles;
  }

  private boolean isRound(Rule rule, int here, int there) {
    if (here == there) {
      return true;
    }
    if (rule.near() == null) {
      return false;
    }
    Rule.Names names = new Rule.Names();
    names.put("here", here);
    names.put("parish", parishes.get(here));
    names.put("there", there);
    names.put("theirs", parishes.get(there));
    names.put("miles", milesOf(-1, here, there));
    return rule.near().isSo(names);
  }

  int round(int rule, int place) {
    if (!isRule(rule) || !isPlace(place)) {
      return -1;
    }
    int bits = 0;
    for (int there = 0; there < parishes.size(); there++) {
      bits |= isRound(rule(rule), place, there) ? 1 << there : 0;
    }
    return bits;
  }

  private List<Seen> knownOf(int boat, int k, int upTo) {
    List<Seen> known = new ArrayList<>();
    for (Seen seen : sightings) {
      if (seen.boat() == boat && seen.told() <= k && seen.day() <= upTo) {
        known.add(seen);
      }
    }
    return known;
  }

  private Journeys journeys(List<Seen> known) {
    int first = 60;
    int last = -1;
    for (Seen seen : known) {
      first = Math.min(first, seen.day());
      last = Math.max(last, seen.day());
    }
    List<int[]> all = new ArrayList<>();
    if (last < 0) {
      return new Journeys(-1, -1, all);
    }
    int[][][] miles = new int[60][parishes.size()][parishes.size()];
    for (int day = first + 1; day <= last; day++) {
      for (int from = 0; from < parishes.size(); from++) {
        for (int to = 0; to < parishes.size(); to++) {
          miles[day][from][to] = milesOf(day, from, to);
        }
      }
    }
    writeOut(known, first, new int[last - first + 1], 0, miles, all);
    return new Journeys(first, last, all);
  }

  private void writeOut(
      List<Seen> known, int first, int[] journey, int done, int[][][] miles, List<int[]> all) {
    if (done == journey.length) {
      all.add(journey.clone());
      return;
    }
    for (int place = 0; place < parishes.size(); place++) {
      boolean fits = done == 0 || miles[first + done][journey[done - 1]][place] <= pace;
      for (Seen seen : known) {
        fits &= seen.day() != first + done || seen.place() == place;
      }
      if (fits) {
        journey[done] = place;
        writeOut(known, first, journey, done + 1, miles, all);
      }
    }
  }

  private Journeys of(int boat, int k) {
    return journeys(knownOf(boat, k, 59));
  }

  int may(int boat, int day, int k) {
    if (!isBoat(boat) || !isDay(day) || !isDay(k)) {
      return -1;
    }
    int bits = 0;
    for (int place : of(boat, k).may(day)) {
      bits |= 1 << place;
    }
    return bits;
  }

  int known(int boat, int k, int what) {
    if (!isBoat(boat) || !isDay(k)) {
      return -1;
    }
    Journeys js = of(boat, k);
    if (js.never()) {
      return -1;
    }
    return switch (what) {
      case 0 -> js.first();
      case 1 -> js.last();
      case 2 -> js.impossible() ? 1 : 0;
      case 3 -> js.impossible() ? -1 : js.doubt();
      default -> -1;
    };
  }

  private boolean isExcused(int boat, Rule rule, int k, int day, int where) {
    for (Excuse excuse : excuses) {
      if (excuse.boat() == boat && excuse.proved() <= k && within(day, excuse.from(), excuse.to())) {
        return true;
      }
    }
    if (rule.excuse() == null) {
      return false;
    }
    Rule.Names names = new Rule.Names();
    names.put("here", where);
    names.put("parish", parishes.get(where));
    names.put("day", day);
    return rule.excuse().isSo(names);
  }

  /** The longest stay of one journey: of each beginning and each end the days between. */
  private int longestOf(int[] journey, int first, int boat, int h, Rule rule, int k) {
    int longest = 0;
    for (int from = 0; from < journey.length; from++) {
      int lasts = 0;
      for (int i = from; i < journey.length && isRound(rule, h, journey[i]); i++) {
        lasts += isExcused(boat, rule, k, first + i, journey[i]) ? 0 : 1;
        longest = Math.max(longest, lasts);
      }
    }
    return longest;
  }

  private int stay(Rule rule, int h) {
    if (rule.stay() == null) {
      return 14;
    }
    Rule.Names names = new Rule.Names();
    names.put("here", h);
    names.put("parish", parishes.get(h));
    return Math.max(0, Math.min(99, rule.stay().value(names)));
  }

  private int need(Rule rule, int days) {
    if (rule.need() == null) {
      return 20;
    }
    Rule.Names names = new Rule.Names();
    names.put("days", days);
    return Math.max(0, Math.min(9999, rule.need().value(names)));
  }

  private int[] longestOfAll(Journeys js, int boat, int h, Rule rule, int k) {
    int[] ends = {Integer.MAX_VALUE, Integer.MIN_VALUE};
    for (int[] journey : js.all()) {
      int longest = longestOf(journey, js.first(), boat, h, rule, k);
      ends[0] = Math.min(ends[0], longest);
      ends[1] = Math.max(ends[1], longest);
    }
    return ends;
  }

  private int overOf(Journeys js, int boat, int h, Rule rule, int k) {
    boolean each = true;
    boolean some = false;
    for (int[] journey : js.all()) {
      boolean over = longestOf(journey, js.first(), boat, h, rule, k) > stay(rule, h);
      each &= over;
      some |= over;
    }
    return each ? 2 : some ? 1 : 0;
  }

  int over(int boat, int place, int rule, int k) {
    if (!isBoat(boat) || !isPlace(place) || !isRule(rule) || !isDay(k) || of(boat, k).none()) {
      return -1;
    }
    return overOf(of(boat, k), boat, place, rule(rule), k);
  }

  int longest(int boat, int place, int rule, int k, int what) {
    if (over(boat, place, rule, k) < 0 || !within(what, 0, 1)) {
      return -1;
    }
    return longestOfAll(of(boat, k), boat, place, rule(rule), k)[what];
  }

  private int[] farOf(Journeys js) {
    int[] ends = {Integer.MAX_VALUE, Integer.MIN_VALUE};
    for (int[] journey : js.all()) {
      int far = 0;
      for (int i = 1; i < journey.length; i++) {
        far += milesOf(js.first() + i, journey[i - 1], journey[i]);
      }
      ends[0] = Math.min(ends[0], far);
      ends[1] = Math.max(ends[1], far);
    }
    return ends;
  }

  int far(int boat, int k, int what) {
    if (!isBoat(boat) || !isDay(k) || !within(what, 0, 1) || of(boat, k).none()) {
      return -1;
    }
    return farOf(of(boat, k))[what];
  }

  private int shortBy(Journeys js, Rule rule) {
    int need = need(rule, js.last() - js.first() + 1);
    int[] ends = farOf(js);
    return ends[1] < need ? 2 : ends[0] < need ? 1 : 0;
  }

  int shortOf(int boat, int rule, int k) {
    if (!isBoat(boat) || !isRule(rule) || !isDay(k) || of(boat, k).none()) {
      return -1;
    }
    return shortBy(of(boat, k), rule(rule));
  }

  private int brokenOf(Journeys js, int boat, Rule rule, int k) {
    if (js.none()) {
      return -1;
    }
    boolean broken = shortBy(js, rule) == 2;
    for (int h = 0; h < parishes.size(); h++) {
      broken |= overOf(js, boat, h, rule, k) == 2;
    }
    return broken ? 1 : 0;
  }

  int broken(int boat, int rule, int k) {
    if (!isBoat(boat) || !isRule(rule) || !isDay(k)) {
      return -1;
    }
    return brokenOf(of(boat, k), boat, rule(rule), k);
  }

  int look(int boat, int day, int k, int what) {
    if (!isBoat(boat) || !isDay(day) || !isDay(k) || !within(what, 0, 1)) {
      return -1;
    }
    Journeys js = of(boat, k);
    int[] best = {-1, Integer.MAX_VALUE};
    for (int place : js.may(day)) {
      List<int[]> there = new ArrayList<>();
      List<int[]> not = new ArrayList<>();
      for (int[] journey : js.all()) {
        (journey[day - js.first()] == place ? there : not).add(journey);
      }
      int doubtThere = new Journeys(js.first(), js.last(), there).doubt();
      int doubtNot = not.isEmpty() ? 0 : new Journeys(js.first(), js.last(), not).doubt();
      if (Math.max(doubtThere, doubtNot) < best[1]) {
        best = new int[] {place, Math.max(doubtThere, doubtNot)};
      }
    }
    return best[0] < 0 ? -1 : best[what];
  }

  int send(int boat, int rule, int day) {
    if (!isDay(day) || broken(boat, rule, day) != 1) {
      return -1;
    }
    List<Letter> own = letters.get(boat);
    if (own.size() == 3 || (!own.isEmpty() && day - own.get(own.size() - 1).day() < 14)) {
      return -1;
    }
    own.add(new Letter(rule, day));
    return own.size();
  }

  int appeal(int boat, int day) {
    if (!isBoat(boat) || !isDay(day) || letters.get(boat).isEmpty()) {
      return -1;
    }
    List<Letter> own = letters.get(boat);
    Letter latest = own.get(own.size() - 1);
    if (day < latest.day()) {
      return -1;
    }
    Journeys js = journeys(knownOf(boat, day, latest.day()));
    if (brokenOf(js, boat, rule(latest.rule()), day) == 1) {
      return -1;
    }
    own.remove(own.size() - 1);
    return own.size();
  }

  int crowd(int place, int day, int k, int what) {
    if (!isPlace(place) || !isDay(day) || !isDay(k) || !within(what, 0, 1)) {
      return -1;
    }
    int count = 0;
    for (int boat = 0; boat < boats; boat++) {
      TreeSet<Integer> may = of(boat, k).may(day);
      count += may.contains(place) && (what == 1 || may.size() == 1) ? 1 : 0;
    }
    return count;
  }

  int tied(int one, int other, int k) {
    if (!isBoat(one) || !isBoat(other) || one == other || !isDay(k)) {
      return -1;
    }
    Journeys a = of(one, k);
    Journeys b = of(other, k);
    if (a.none() || b.none() || Math.max(a.first(), b.first()) > Math.min(a.last(), b.last())) {
      return -1;
    }
    for (int[] mine : a.all()) {
      for (int[] yours : b.all()) {
        boolean together = true;
        for (int day = Math.max(a.first(), b.first()); day <= Math.min(a.last(), b.last()); day++) {
          together &= mine[day - a.first()] == yours[day - b.first()];
        }
        if (together) {
          return 1;
        }
      }
    }
    return 0;
  }

  private static List<Seen> exchanged(List<Seen> own, List<Seen> others, int day) {
    List<Seen> all = new ArrayList<>();
    for (Seen seen : own) {
      if (seen.day() != day) {
        all.add(seen);
      }
    }
    for (Seen seen : others) {
      if (seen.day() == day) {
        all.add(seen);
      }
    }
    return all;
  }

  private static boolean seenOn(List<Seen> known, int day) {
    for (Seen seen : known) {
      if (seen.day() == day) {
        return true;
      }
    }
    return false;
  }

  int swapped(int one, int other, int k, int i) {
    if (!isBoat(one) || !isBoat(other) || one == other || !isDay(k) || i < -1) {
      return -1;
    }
    List<Seen> mine = knownOf(one, k, 59);
    List<Seen> yours = knownOf(other, k, 59);
    List<Integer> days = new ArrayList<>();
    if (journeys(mine).impossible() || journeys(yours).impossible()) {
      for (int day = 0; day < 60; day++) {
        boolean both = seenOn(mine, day) && seenOn(yours, day);
        if (both
            && !journeys(exchanged(mine, yours, day)).impossible()
            && !journeys(exchanged(yours, mine, day)).impossible()) {
          days.add(day);
        }
      }
    }
    if (i == -1) {
      return days.size();
    }
    return i < days.size() ? days.get(i) : -1;
  }

  int image() {
    image = copy();
    return sightings.size();
  }

  int back() {
    take(image == null ? new Model() : image);
    return sightings.size();
  }

  int about(int what) {
    if (within(what, 10, 17) && isBoat(what - 10)) {
      return letters.get(what - 10).size();
    }
    if (within(what, 20, 27) && isBoat(what - 20)) {
      List<Letter> own = letters.get(what - 20);
      return own.isEmpty() ? -1 : own.get(own.size() - 1).day();
    }
    return switch (what) {
      case 0 -> parishes.size();
      case 1 -> ways.size();
      case 2 -> shuts.size();
      case 3 -> pace;
      case 4 -> boats;
      case 5 -> sightings.size();
      case 6 -> excuses.size();
      case 7 -> rules.size();
      default -> -2;
    };
  }

  int places() {
    return parishes.size();
  }
}
