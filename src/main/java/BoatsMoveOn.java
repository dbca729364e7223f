import java.util.Arrays;

/**
 * Boats without a mooring that must move on: where each may have been, whether it stayed too long
 * or went too short a way by rules that are told, and the letters that follow from it.
 *
 * <p>All rows are made with the object and used again by every call, so that no call makes one.
 */
public final class BoatsMoveOn {
  public static final int NONE = -1;

  private static final int PLACES = 10;
  private static final int PARISHES = 10;
  private static final int WAYS = 15;
  private static final int LONGEST_WAY = 30;
  private static final int SHUTS = 10;
  private static final int DAYS = 60;
  private static final int LAST_DAY = DAYS - 1;
  private static final int FIRST_PACE = 10;
  private static final int GREATEST_PACE = 60;
  private static final int NO_WAY = 9999;

  private static final int BOATS = 8;
  private static final int SIGHTINGS = 60;
  private static final int EXCUSES = 20;
  private static final int STEPS = 3;
  private static final int DAYS_BETWEEN_LETTERS = 14;

  private static final int TEXTS = 4;
  private static final int TAPE = 300;
  private static final int FED_AT_ONCE = 20;

  private static final int FOR_SURE = 2;
  private static final int PERHAPS = 1;
  private static final int NOT_AT_ALL = 0;
  private static final int UNKNOWN_QUESTION = -2;

  private final Canal canal = new Canal();
  private final Logbook log = new Logbook();
  private final Letters letters = new Letters();
  private final Image kept = new Image();
  private final Reader reader = new Reader();
  private final Text noRule = new Text(0);
  private final Text[] texts = new Text[TEXTS];
  private int textCount = 0;
  private final Judge judge = new Judge(canal);
  private final Journeys journeys = new Journeys(canal);
  private final Journeys othersJourneys = new Journeys(canal);
  private final Stays stays = new Stays(canal, journeys);

  public BoatsMoveOn() {
    for (int i = 0; i < TEXTS; i++) {
      texts[i] = new Text(TAPE);
    }
  }

  public int place(int parish) {
    if (parish < 0 || parish >= PARISHES || canal.places >= PLACES) {
      return NONE;
    }
    return canal.addPlace(parish);
  }

  public int way(int one, int other, int miles) {
    boolean told = isPlace(one) && isPlace(other) && one != other;
    if (!told || miles < 1 || miles > LONGEST_WAY || canal.ways >= WAYS) {
      return NONE;
    }
    return canal.addWay(one, other, miles);
  }

  public int shut(int way, int from, int to) {
    boolean isWay = way >= 0 && way < canal.ways;
    if (!isWay || !isSpan(from, to) || canal.shuts >= SHUTS) {
      return NONE;
    }
    return canal.addShut(way, from, to);
  }

  public boolean pace(int miles) {
    if (miles < 1 || miles > GREATEST_PACE) {
      return false;
    }
    canal.setPace(miles);
    return true;
  }

  public int boat() {
    if (log.boats >= BOATS) {
      return NONE;
    }
    return log.boats++;
  }

  public int seen(int boat, int place, int day, int told) {
    // A sighting is told on its day or later, so day and told make a span.
    if (!isBoat(boat) || !isPlace(place) || !isSpan(day, told) || log.sightings >= SIGHTINGS) {
      return NONE;
    }
    return log.addSighting(boat, place, day, told);
  }

  public int excuse(int boat, int from, int to, int proved) {
    if (!isBoat(boat) || !isSpan(from, to) || !isDay(proved) || log.excuses >= EXCUSES) {
      return NONE;
    }
    return log.addExcuse(boat, from, to, proved);
  }

  public int feed(int a, int b, int c, int d, int e) {
    if (reader.length + FED_AT_ONCE > TAPE) {
      return NONE;
    }
    reader.addFour(a);
    reader.addFour(b);
    reader.addFour(c);
    reader.addFour(d);
    reader.addFour(e);
    return reader.length;
  }

  public int end(int n) {
    if (n < 0 || n > reader.length) {
      return NONE;
    }
    reader.length = n;
    return n;
  }

  public int text() {
    if (textCount >= TEXTS || !reader.readInto(texts[textCount])) {
      return NONE;
    }
    return textCount++;
  }

  public int fault(int what) {
    switch (what) {
      case 0:
        return reader.fault;
      case 1:
        return reader.faultAt;
      default:
        return NONE;
    }
  }

  public int miles(int day, int from, int to) {
    if ((day != NONE && !isDay(day)) || !isPlace(from) || !isPlace(to)) {
      return NONE;
    }
    canal.freshen();
    int distance = day == NONE ? canal.openDistance(from, to) : canal.distance(day, from, to);
    return distance == NO_WAY ? NONE : distance;
  }

  public int round(int rule, int place) {
    if (!isRule(rule) || !isPlace(place)) {
      return NONE;
    }
    canal.freshen();
    return judge.placesRound(ruleText(rule), place);
  }

  public int may(int boat, int day, int k) {
    if (!isBoat(boat) || !isDay(day) || !isDay(k)) {
      return NONE;
    }
    trace(journeys, boat, k, LAST_DAY);
    return journeys.places[day];
  }

  public int known(int boat, int k, int what) {
    if (!isBoat(boat) || !isDay(k)) {
      return NONE;
    }
    trace(journeys, boat, k, LAST_DAY);
    if (journeys.first == NONE) {
      return NONE;
    }
    switch (what) {
      case 0:
        return journeys.first;
      case 1:
        return journeys.last;
      case 2:
        return journeys.possible ? 0 : 1;
      case 3:
        return journeys.possible ? journeys.doubt() : NONE;
      default:
        return NONE;
    }
  }

  public int over(int boat, int place, int rule, int k) {
    if (!isPlace(place) || !isRule(rule) || !hasJourneys(boat, k)) {
      return NONE;
    }
    prepareStays(boat, ruleText(rule), k);
    int limit = judge.stayLimit(ruleText(rule), place);
    stays.round = judge.placesRound(ruleText(rule), place);
    if (!stays.canKeepTo(limit)) {
      return FOR_SURE;
    }
    return stays.atMost() > limit ? PERHAPS : NOT_AT_ALL;
  }

  public int longest(int boat, int place, int rule, int k, int what) {
    boolean asked = isPlace(place) && isRule(rule) && isZeroOrOne(what);
    if (!asked || !hasJourneys(boat, k)) {
      return NONE;
    }
    prepareStays(boat, ruleText(rule), k);
    stays.round = judge.placesRound(ruleText(rule), place);
    return what == 0 ? stays.atLeast() : stays.atMost();
  }

  public int far(int boat, int k, int what) {
    if (!isZeroOrOne(what) || !hasJourneys(boat, k)) {
      return NONE;
    }
    return what == 0 ? journeys.leastMiles() : journeys.mostMiles();
  }

  public int shortOf(int boat, int rule, int k) {
    if (!isRule(rule) || !hasJourneys(boat, k)) {
      return NONE;
    }
    int needed = judge.milesNeeded(ruleText(rule), journeys.days());
    if (journeys.mostMiles() < needed) {
      return FOR_SURE;
    }
    return journeys.leastMiles() < needed ? PERHAPS : NOT_AT_ALL;
  }

  public int broken(int boat, int rule, int k) {
    if (!isRule(rule) || !hasJourneys(boat, k)) {
      return NONE;
    }
    return breaks(boat, ruleText(rule), k) ? 1 : 0;
  }

  public int look(int boat, int day, int k, int what) {
    boolean asked = isZeroOrOne(what) && isDay(day);
    if (!asked || !hasJourneys(boat, k)) {
      return NONE;
    }
    // On a day that is none of its journeys' there is no candidate.
    int candidates = journeys.places[day];
    int bestPlace = NONE;
    int bestDoubt = NONE;
    for (int place = 0; place < canal.places; place++) {
      if (!hasBit(candidates, place)) {
        continue;
      }
      int ifThere = journeys.doubtWith(day, 1 << place);
      int ifNot = journeys.doubtWith(day, ~(1 << place));
      int greater = Math.max(ifThere, ifNot);
      if (bestPlace == NONE || greater < bestDoubt) {
        bestPlace = place;
        bestDoubt = greater;
      }
    }
    return what == 0 ? bestPlace : bestDoubt;
  }

  public int send(int boat, int rule, int day) {
    if (!isRule(rule) || !hasJourneys(boat, day) || !letters.mayFollow(boat, day)) {
      return NONE;
    }
    if (!breaks(boat, ruleText(rule), day)) {
      return NONE;
    }
    return letters.add(boat, rule, day);
  }

  public int appeal(int boat, int day) {
    if (!isBoat(boat) || !isDay(day)) {
      return NONE;
    }
    int letterDay = letters.latestDay(boat);
    int rule = letters.latestRule(boat);
    if (letterDay == NONE || day < letterDay || !isRule(rule)) {
      return NONE;
    }
    trace(journeys, boat, day, letterDay);
    // What turns out to be impossible has no journey that breaks a rule: the letter falls.
    if (journeys.possible && breaks(boat, ruleText(rule), day)) {
      return NONE;
    }
    return letters.takeBack(boat);
  }

  public int crowd(int place, int day, int k, int what) {
    if (!isPlace(place) || !isDay(day) || !isDay(k) || !isZeroOrOne(what)) {
      return NONE;
    }
    int count = 0;
    for (int boat = 0; boat < log.boats; boat++) {
      trace(journeys, boat, k, LAST_DAY);
      int where = journeys.places[day];
      boolean counts = what == 0 ? where == 1 << place : hasBit(where, place);
      if (counts) {
        count++;
      }
    }
    return count;
  }

  public int tied(int one, int other, int k) {
    if (one == other || !hasJourneys(one, k) || !isBoat(other)) {
      return NONE;
    }
    trace(othersJourneys, other, k, LAST_DAY);
    if (!othersJourneys.possible) {
      return NONE;
    }
    int from = Math.max(journeys.first, othersJourneys.first);
    int to = Math.min(journeys.last, othersJourneys.last);
    if (from > to) {
      return NONE;
    }
    int together = journeys.places[from] & othersJourneys.places[from];
    for (int day = from + 1; day <= to; day++) {
      together = canal.reachedFrom(day, together);
      together &= journeys.places[day] & othersJourneys.places[day];
    }
    return together != 0 ? 1 : 0;
  }

  public int swapped(int one, int other, int k, int i) {
    if (!isBoat(one) || !isBoat(other) || one == other || !isDay(k) || i < NONE) {
      return NONE;
    }
    trace(journeys, one, k, LAST_DAY);
    trace(othersJourneys, other, k, LAST_DAY);
    boolean somethingWrong = journeys.isImpossible() || othersJourneys.isImpossible();
    int count = 0;
    for (int day = 0; day < DAYS && somethingWrong; day++) {
      if (!mendsBoth(day)) {
        continue;
      }
      if (count == i) {
        return day;
      }
      count++;
    }
    return i == NONE ? count : NONE;
  }

  public int image() {
    kept.keep(canal, log, letters);
    kept.textCount = textCount;
    return log.sightings;
  }

  public int back() {
    kept.bringBack(canal, log, letters);
    textCount = kept.textCount;
    return log.sightings;
  }

  public int about(int what) {
    if (what >= 20) {
      return isBoat(what - 20) ? letters.latestDay(what - 20) : UNKNOWN_QUESTION;
    }
    if (what >= 10) {
      return isBoat(what - 10) ? letters.steps[what - 10] : UNKNOWN_QUESTION;
    }
    switch (what) {
      case 0:
        return canal.places;
      case 1:
        return canal.ways;
      case 2:
        return canal.shuts;
      case 3:
        return canal.pace;
      case 4:
        return log.boats;
      case 5:
        return log.sightings;
      case 6:
        return log.excuses;
      case 7:
        return textCount;
      case 8:
        return reader.length;
      default:
        return UNKNOWN_QUESTION;
    }
  }

  private boolean isPlace(int place) {
    return place >= 0 && place < canal.places;
  }

  private boolean isBoat(int boat) {
    return boat >= 0 && boat < log.boats;
  }

  private boolean isRule(int rule) {
    return rule >= NONE && rule < textCount;
  }

  private static boolean isDay(int day) {
    return day >= 0 && day < DAYS;
  }

  private static boolean isSpan(int from, int to) {
    return isDay(from) && isDay(to) && from <= to;
  }

  private static boolean isZeroOrOne(int what) {
    return what == 0 || what == 1;
  }

  private static boolean hasBit(int bits, int place) {
    return (bits >> place & 1) != 0;
  }

  private Text ruleText(int rule) {
    return rule >= 0 && rule < textCount ? texts[rule] : noRule;
  }

  private void trace(Journeys row, int boat, int k, int lastDay) {
    canal.freshen();
    row.gather(log, boat, k, lastDay);
    row.settle();
  }

  /** Traces the boat; false if it isn't one, was never seen or is impossible. */
  private boolean hasJourneys(int boat, int k) {
    if (!isBoat(boat) || !isDay(k)) {
      return false;
    }
    trace(journeys, boat, k, LAST_DAY);
    return journeys.possible;
  }

  /** Marks the excused days of the journeys that were traced last. */
  private void prepareStays(int boat, Text rule, int k) {
    for (int day = journeys.first; day <= journeys.last; day++) {
      if (log.isExcused(boat, day, k)) {
        stays.excused[day] = journeys.places[day];
      } else {
        stays.excused[day] = judge.placesExcused(rule, journeys.places[day], day);
      }
    }
  }

  /** Whether all journeys that were traced last are too short, or too long round one place. */
  private boolean breaks(int boat, Text rule, int k) {
    if (journeys.mostMiles() < judge.milesNeeded(rule, journeys.days())) {
      return true;
    }
    prepareStays(boat, rule, k);
    for (int place = 0; place < canal.places; place++) {
      stays.round = judge.placesRound(rule, place);
      if (!stays.canKeepTo(judge.stayLimit(rule, place))) {
        return true;
      }
    }
    return false;
  }

  /** Whether neither boat is impossible when what was seen of both on the day is exchanged. */
  private boolean mendsBoth(int day) {
    if (!journeys.wasSeen(day) || !othersJourneys.wasSeen(day)) {
      return false;
    }
    int mine = journeys.allowed[day];
    int theirs = othersJourneys.allowed[day];
    return journeys.canBeWith(day, theirs) && othersJourneys.canBeWith(day, mine);
  }

  /** Places, ways, shut ways and the pace; and how far it is between places on each day. */
  private static final class Canal {
    // Ten spans that are shut cut the days into 21 pieces at most; one table more has nothing shut.
    private static final int TABLES = 2 * SHUTS + 2;
    private static final int PAIRS = PLACES * PLACES;

    final int[] parishes = new int[PLACES];
    int places = 0;
    final int[] ones = new int[WAYS];
    final int[] others = new int[WAYS];
    final int[] lengths = new int[WAYS];
    int ways = 0;
    final int[] shutWays = new int[SHUTS];
    final int[] shutFroms = new int[SHUTS];
    final int[] shutTos = new int[SHUTS];
    int shuts = 0;
    int pace = FIRST_PACE;

    // Days on which the same ways are shut share a table: few tables are worked out, and seldom.
    private boolean stale = true;
    private int tables = 0;
    private final int[] tableOfDay = new int[DAYS];
    private final int[] closedWays = new int[TABLES];
    private final int[] distances = new int[TABLES * PAIRS];
    private final int[] reached = new int[TABLES * PLACES];

    int addPlace(int parish) {
      parishes[places] = parish;
      stale = true;
      return places++;
    }

    int addWay(int one, int other, int miles) {
      ones[ways] = one;
      others[ways] = other;
      lengths[ways] = miles;
      stale = true;
      return ways++;
    }

    int addShut(int way, int from, int to) {
      shutWays[shuts] = way;
      shutFroms[shuts] = from;
      shutTos[shuts] = to;
      stale = true;
      shuts++;
      return shuts;
    }

    void setPace(int miles) {
      stale = stale || miles != pace;
      pace = miles;
    }

    void goBack(int oldPlaces, int oldWays, int oldShuts, int oldPace) {
      places = oldPlaces;
      ways = oldWays;
      shuts = oldShuts;
      pace = oldPace;
      stale = true;
    }

    /** The tables are only right behind this. */
    void freshen() {
      if (!stale) {
        return;
      }
      stale = false;
      tables = 0;
      addTable(0);
      for (int day = 0; day < DAYS; day++) {
        tableOfDay[day] = tableFor(waysShutOn(day));
      }
    }

    int openDistance(int from, int to) {
      return distances[from * PLACES + to];
    }

    int distance(int day, int from, int to) {
      return distances[tableOfDay[day] * PAIRS + from * PLACES + to];
    }

    /** Places no farther than the pace from one of some places, on a day. */
    int reachedFrom(int day, int from) {
      int base = tableOfDay[day] * PLACES;
      int all = 0;
      for (int place = 0; place < places; place++) {
        if (hasBit(from, place)) {
          all |= reached[base + place];
        }
      }
      return all;
    }

    int reachedFromOne(int day, int from) {
      return reached[tableOfDay[day] * PLACES + from];
    }

    private int waysShutOn(int day) {
      int closed = 0;
      for (int i = 0; i < shuts; i++) {
        if (shutFroms[i] <= day && day <= shutTos[i]) {
          closed |= 1 << shutWays[i];
        }
      }
      return closed;
    }

    private int tableFor(int closed) {
      for (int table = 0; table < tables; table++) {
        if (closedWays[table] == closed) {
          return table;
        }
      }
      return addTable(closed);
    }

    private int addTable(int closed) {
      if (tables >= TABLES) {
        return 0;
      }
      int table = tables++;
      closedWays[table] = closed;
      layWays(table * PAIRS, closed);
      joinWays(table * PAIRS);
      for (int from = 0; from < places; from++) {
        int near = 0;
        for (int to = 0; to < places; to++) {
          if (distances[table * PAIRS + from * PLACES + to] <= pace) {
            near |= 1 << to;
          }
        }
        reached[table * PLACES + from] = near;
      }
      return table;
    }

    private void layWays(int base, int closed) {
      for (int pair = 0; pair < PAIRS; pair++) {
        distances[base + pair] = NO_WAY;
      }
      for (int place = 0; place < places; place++) {
        distances[base + place * PLACES + place] = 0;
      }
      for (int way = 0; way < ways; way++) {
        if (hasBit(closed, way)) {
          continue;
        }
        int there = base + ones[way] * PLACES + others[way];
        int andBack = base + others[way] * PLACES + ones[way];
        distances[there] = Math.min(distances[there], lengths[way]);
        distances[andBack] = distances[there];
      }
    }

    private void joinWays(int base) {
      for (int over = 0; over < places; over++) {
        for (int from = 0; from < places; from++) {
          int toOver = distances[base + from * PLACES + over];
          if (toOver == NO_WAY) {
            continue;
          }
          for (int to = 0; to < places; to++) {
            int joined = toOver + distances[base + over * PLACES + to];
            int pair = base + from * PLACES + to;
            distances[pair] = Math.min(distances[pair], joined);
          }
        }
      }
    }
  }

  /** Boats, what was seen of them, and their excuses, each with the day since when it is known. */
  private static final class Logbook {
    int boats = 0;
    final int[] seenBoats = new int[SIGHTINGS];
    final int[] seenPlaces = new int[SIGHTINGS];
    final int[] seenDays = new int[SIGHTINGS];
    final int[] toldDays = new int[SIGHTINGS];
    int sightings = 0;
    final int[] excusedBoats = new int[EXCUSES];
    final int[] excusedFroms = new int[EXCUSES];
    final int[] excusedTos = new int[EXCUSES];
    final int[] provedDays = new int[EXCUSES];
    int excuses = 0;

    int addSighting(int boat, int place, int day, int told) {
      seenBoats[sightings] = boat;
      seenPlaces[sightings] = place;
      seenDays[sightings] = day;
      toldDays[sightings] = told;
      sightings++;
      return sightings;
    }

    int addExcuse(int boat, int from, int to, int proved) {
      excusedBoats[excuses] = boat;
      excusedFroms[excuses] = from;
      excusedTos[excuses] = to;
      provedDays[excuses] = proved;
      excuses++;
      return excuses;
    }

    boolean isExcused(int boat, int day, int k) {
      for (int i = 0; i < excuses; i++) {
        boolean has = excusedFroms[i] <= day && day <= excusedTos[i];
        if (excusedBoats[i] == boat && has && provedDays[i] <= k) {
          return true;
        }
      }
      return false;
    }
  }

  /** For each boat the letters that stand, the latest on top: their rules and days. */
  private static final class Letters {
    final int[] steps = new int[BOATS];
    private final int[] rules = new int[BOATS * STEPS];
    private final int[] days = new int[BOATS * STEPS];

    int latestDay(int boat) {
      return steps[boat] == 0 ? NONE : days[boat * STEPS + steps[boat] - 1];
    }

    int latestRule(int boat) {
      return steps[boat] == 0 ? NONE : rules[boat * STEPS + steps[boat] - 1];
    }

    boolean mayFollow(int boat, int day) {
      if (steps[boat] >= STEPS) {
        return false;
      }
      return steps[boat] == 0 || day - latestDay(boat) >= DAYS_BETWEEN_LETTERS;
    }

    int add(int boat, int rule, int day) {
      rules[boat * STEPS + steps[boat]] = rule;
      days[boat * STEPS + steps[boat]] = day;
      steps[boat]++;
      return steps[boat];
    }

    int takeBack(int boat) {
      steps[boat]--;
      return steps[boat];
    }

    void copyFrom(Letters from) {
      System.arraycopy(from.steps, 0, steps, 0, BOATS);
      System.arraycopy(from.rules, 0, rules, 0, BOATS * STEPS);
      System.arraycopy(from.days, 0, days, 0, BOATS * STEPS);
    }
  }

  /**
   * What to go back to. All but letters and pace is only ever added behind what is there, so how
   * many there were is enough to have them again.
   */
  private static final class Image {
    private int places = 0;
    private int ways = 0;
    private int shuts = 0;
    private int pace = FIRST_PACE;
    private int boats = 0;
    private int sightings = 0;
    private int excuses = 0;
    int textCount = 0;
    private final Letters letters = new Letters();

    void keep(Canal canal, Logbook log, Letters sent) {
      places = canal.places;
      ways = canal.ways;
      shuts = canal.shuts;
      pace = canal.pace;
      boats = log.boats;
      sightings = log.sightings;
      excuses = log.excuses;
      letters.copyFrom(sent);
    }

    void bringBack(Canal canal, Logbook log, Letters sent) {
      canal.goBack(places, ways, shuts, pace);
      log.boats = boats;
      log.sightings = sightings;
      log.excuses = excuses;
      sent.copyFrom(letters);
    }
  }

  /** All journeys of one boat at once: for each day the places at which some journey has it. */
  private static final class Journeys {
    private static final int ANYWHERE = -1;

    private final Canal canal;
    int first = NONE;
    int last = NONE;
    boolean possible = false;
    final int[] allowed = new int[DAYS];
    final int[] places = new int[DAYS];
    // Miles up to a day by the place on it, and the same of the next day.
    private int[] before = new int[PLACES];
    private int[] then = new int[PLACES];

    Journeys(Canal canal) {
      this.canal = canal;
    }

    /** Takes what was seen of a boat up to a day, as known on k. */
    void gather(Logbook log, int boat, int k, int lastDay) {
      first = NONE;
      last = NONE;
      Arrays.fill(allowed, ANYWHERE);
      for (int i = 0; i < log.sightings; i++) {
        int day = log.seenDays[i];
        if (log.seenBoats[i] != boat || log.toldDays[i] > k || day > lastDay) {
          continue;
        }
        allowed[day] &= 1 << log.seenPlaces[i];
        first = first == NONE ? day : Math.min(first, day);
        last = Math.max(last, day);
      }
    }

    /** Works out the places of each day: reached from the first day on, and leading to the last. */
    void settle() {
      Arrays.fill(places, 0);
      possible = false;
      if (first == NONE) {
        return;
      }
      places[first] = allowed[first];
      for (int day = first + 1; day <= last; day++) {
        places[day] = allowed[day] & canal.reachedFrom(day, places[day - 1]);
      }
      possible = places[last] != 0;
      // A way is as long there as back, so what leads to a day is what is reached from it.
      for (int day = last - 1; day >= first; day--) {
        places[day] &= canal.reachedFrom(day + 1, places[day + 1]);
      }
    }

    boolean isImpossible() {
      return first != NONE && !possible;
    }

    boolean wasSeen(int day) {
      return allowed[day] != ANYWHERE;
    }

    int days() {
      return last - first + 1;
    }

    int doubt() {
      int sum = 0;
      for (int day = first; day <= last; day++) {
        sum += Integer.bitCount(places[day]) - 1;
      }
      return sum;
    }

    /** The doubt if only some places were left on a day: 0 if that is impossible. */
    int doubtWith(int day, int left) {
      int asSeen = allowed[day];
      boolean can = canBeWith(day, asSeen & left);
      return can ? doubt() : 0;
    }

    /** Settles with other places allowed on a day; the next to settle finds it as it was. */
    boolean canBeWith(int day, int instead) {
      int asSeen = allowed[day];
      allowed[day] = instead;
      settle();
      allowed[day] = asSeen;
      return possible;
    }

    int leastMiles() {
      return furthest(-1) * -1;
    }

    int mostMiles() {
      return furthest(1);
    }

    /** The greatest sum of miles, each counted with the sign: with -1 it is the least, negated. */
    private int furthest(int sign) {
      Arrays.fill(before, 0);
      for (int day = first + 1; day <= last; day++) {
        for (int place = 0; place < canal.places; place++) {
          if (hasBit(places[day], place)) {
            then[place] = furthestTo(day, place, sign);
          }
        }
        int[] spare = before;
        before = then;
        then = spare;
      }
      int best = -NO_WAY;
      for (int place = 0; place < canal.places; place++) {
        if (hasBit(places[last], place)) {
          best = Math.max(best, before[place]);
        }
      }
      return best;
    }

    private int furthestTo(int day, int place, int sign) {
      int from = places[day - 1] & canal.reachedFromOne(day, place);
      int best = -NO_WAY;
      for (int ahead = 0; ahead < canal.places; ahead++) {
        if (hasBit(from, ahead)) {
          best = Math.max(best, before[ahead] + sign * canal.distance(day, ahead, place));
        }
      }
      return best;
    }
  }

  /** How long journeys stay round a place: days that aren't excused, in the stay they are in. */
  private static final class Stays {
    private static final int TOO_LONG = 9999;

    private final Canal canal;
    private final Journeys journeys;
    final int[] excused = new int[DAYS];
    int round = 0;
    private int[] before = new int[PLACES];
    private int[] then = new int[PLACES];

    Stays(Canal canal, Journeys journeys) {
      this.canal = canal;
      this.journeys = journeys;
    }

    int atMost() {
      int most = 0;
      for (int day = journeys.first; day <= journeys.last; day++) {
        for (int place = 0; place < canal.places; place++) {
          if (!hasBit(journeys.places[day], place)) {
            continue;
          }
          int lasts = stayBefore(day, place, true) + dayCounts(day, place);
          then[place] = hasBit(round, place) ? lasts : 0;
          most = Math.max(most, then[place]);
        }
        turn();
      }
      return most;
    }

    int atLeast() {
      int least = 0;
      // Sixty days are the most that a stay has: 63 is never passed.
      for (int step = 32; step > 0; step /= 2) {
        if (!canKeepTo(least + step - 1)) {
          least += step;
        }
      }
      return least;
    }

    /** Whether some journey has no stay longer than the limit. */
    boolean canKeepTo(int limit) {
      boolean can = true;
      for (int day = journeys.first; day <= journeys.last && can; day++) {
        can = false;
        for (int place = 0; place < canal.places; place++) {
          if (!hasBit(journeys.places[day], place)) {
            continue;
          }
          // The shortest stay so far is never worse, so one number for each place is enough.
          int lasts = stayBefore(day, place, false);
          if (lasts != TOO_LONG) {
            lasts = hasBit(round, place) ? lasts + dayCounts(day, place) : 0;
          }
          then[place] = lasts > limit ? TOO_LONG : lasts;
          can = can || lasts <= limit;
        }
        turn();
      }
      return can;
    }

    private int dayCounts(int day, int place) {
      return hasBit(excused[day], place) ? 0 : 1;
    }

    /** The longest or the shortest stay with which a journey comes to a place on a day. */
    private int stayBefore(int day, int place, boolean longest) {
      if (day == journeys.first) {
        return 0;
      }
      int from = journeys.places[day - 1] & canal.reachedFromOne(day, place);
      int best = longest ? 0 : TOO_LONG;
      for (int ahead = 0; ahead < canal.places; ahead++) {
        if (hasBit(from, ahead)) {
          best = longest ? Math.max(best, before[ahead]) : Math.min(best, before[ahead]);
        }
      }
      return best;
    }

    private void turn() {
      int[] spare = before;
      before = then;
      then = spare;
    }
  }

  /** The kinds of tokens; those of operators are the steps of a text, too. */
  private static final class Kind {
    static final int END = 0;
    static final int NO_TOKEN = 1;
    static final int NUMBER = 2;

    static final int NEAR = 3;
    static final int STAY = 4;
    static final int EXCUSE = 5;
    static final int NEED = 6;

    static final int HERE = 7;
    static final int PARISH = 8;
    static final int THERE = 9;
    static final int THEIRS = 10;
    static final int MILES = 11;
    static final int DAY = 12;
    static final int DAYS_OF_JOURNEY = 13;

    static final int OR = 14;
    static final int AND = 15;
    static final int NOT = 16;

    static final int LESS = 17;
    static final int LESS_OR_EQUAL = 18;
    static final int MORE = 19;
    static final int MORE_OR_EQUAL = 20;
    static final int EQUAL = 21;
    static final int UNLIKE = 22;

    static final int PLUS = 23;
    static final int MINUS = 24;
    static final int TIMES = 25;
    static final int BY = 26;
    static final int OPEN = 27;
    static final int CLOSE = 28;
    static final int SEMICOLON = 29;

    // Never a token: the minus of one operand, as a step.
    static final int NEGATE = 30;

    static final int CLAUSES = 4;
    static final int NAMES = 7;

    // For each name the clauses that it is of: near 1, stay 2, excuse 4, need 8.
    private static final int[] CLAUSES_OF_NAMES = {7, 7, 1, 1, 1, 4, 8};

    static boolean isClause(int kind) {
      return kind >= NEAR && kind <= NEED;
    }

    static boolean isName(int kind) {
      return kind >= HERE && kind <= DAYS_OF_JOURNEY;
    }

    static boolean isNameOf(int kind, int clause) {
      return isName(kind) && (CLAUSES_OF_NAMES[kind - HERE] >> clause - NEAR & 1) != 0;
    }

    static String spelling(int kind) {
      switch (kind) {
        case NEAR:
          return "near";
        case STAY:
          return "stay";
        case EXCUSE:
          return "excuse";
        case NEED:
          return "need";
        case HERE:
          return "here";
        case PARISH:
          return "parish";
        case THERE:
          return "there";
        case THEIRS:
          return "theirs";
        case MILES:
          return "miles";
        case DAY:
          return "day";
        case DAYS_OF_JOURNEY:
          return "days";
        case OR:
          return "or";
        case AND:
          return "and";
        case NOT:
          return "not";
        default:
          return "";
      }
    }

    static int ofSign(int sign) {
      switch (sign) {
        case '<':
          return LESS;
        case '>':
          return MORE;
        case '=':
          return EQUAL;
        case '#':
          return UNLIKE;
        case '+':
          return PLUS;
        case '-':
          return MINUS;
        case '*':
          return TIMES;
        case '/':
          return BY;
        case '(':
          return OPEN;
        case ')':
          return CLOSE;
        case ';':
          return SEMICOLON;
        default:
          return NO_TOKEN;
      }
    }
  }

  /** What was read of a tape: for each clause its steps, operands ahead of their operators. */
  private static final class Text {
    // A step is its kind in the low byte, and the number (if it is one) above it.
    private static final int KIND_BITS = 8;
    private static final int KIND_MASK = 255;

    private final int[] steps;
    private int size = 0;
    private final int[] froms = new int[Kind.CLAUSES];
    private final int[] tos = new int[Kind.CLAUSES];

    Text(int most) {
      steps = new int[Math.max(0, most)];
      wipe();
    }

    void wipe() {
      size = 0;
      Arrays.fill(froms, NONE);
      Arrays.fill(tos, NONE);
    }

    boolean has(int clause) {
      return froms[clause - Kind.NEAR] != NONE;
    }

    void open(int clause) {
      froms[clause - Kind.NEAR] = size;
    }

    void close(int clause) {
      tos[clause - Kind.NEAR] = size;
    }

    void add(int kind, int number) {
      if (size < steps.length) {
        steps[size] = number << KIND_BITS | kind;
        size++;
      }
    }

    int from(int clause) {
      return froms[clause - Kind.NEAR];
    }

    int to(int clause) {
      return tos[clause - Kind.NEAR];
    }

    int kindAt(int step) {
      return steps[step] & KIND_MASK;
    }

    int numberAt(int step) {
      return steps[step] >> KIND_BITS;
    }
  }

  /** The tape, and how it is read token by token until the first fault. */
  private static final class Reader {
    private static final int CANT_STAND = 1;
    private static final int TOO_GREAT = 2;
    private static final int TOO_DEEP = 3;
    private static final int WAS_THERE = 4;
    private static final int NOT_OF_CLAUSE = 5;

    private static final int GREATEST_NUMBER = 9999;
    private static final int DEEPEST = 8;

    private static final int EITHER = 0;
    private static final int BOTH = 1;
    private static final int ASK = 2;
    private static final int SUM = 3;
    private static final int PRODUCT = 4;
    private static final int ONE = 5;

    private final int[] tape = new int[TAPE];
    int length = 0;
    int fault = NONE;
    int faultAt = NONE;

    // The token in hand, and where the one behind it is looked for.
    private int kind = Kind.END;
    private int number = 0;
    private int start = 0;
    private int next = 0;

    private int clause = Kind.NEAR;

    void addFour(int bytes) {
      for (int shift = 24; shift >= 0 && length < TAPE; shift -= 8) {
        tape[length] = bytes >> shift & 255;
        length++;
      }
    }

    /** Reads the tape, which is empty then; false if it has a fault. */
    boolean readInto(Text text) {
      text.wipe();
      fault = 0;
      faultAt = NONE;
      next = 0;
      advance();
      // Behind the four clauses one more can only be a fault.
      for (int i = 0; i <= Kind.CLAUSES && fault == 0 && kind != Kind.END; i++) {
        readClause(text);
      }
      length = 0;
      return fault == 0;
    }

    private void readClause(Text text) {
      if (!Kind.isClause(kind)) {
        blame(CANT_STAND);
        return;
      }
      clause = kind;
      if (text.has(clause)) {
        blame(WAS_THERE);
        return;
      }
      boolean isAsked = kind == Kind.NEAR || kind == Kind.EXCUSE;
      text.open(clause);
      advance();
      readJoined(text, isAsked ? EITHER : SUM, 0);
      text.close(clause);
      demand(Kind.SEMICOLON);
      advance();
    }

    /** Parts of the next level, joined by the operators of this one from the left. */
    private void readJoined(Text text, int level, int depth) {
      readPart(text, level + 1, depth);
      for (int i = 0; i < TAPE && fault == 0 && levelOf(kind) == level; i++) {
        int operator = kind;
        advance();
        readPart(text, level + 1, depth);
        text.add(operator, 0);
      }
    }

    private void readPart(Text text, int level, int depth) {
      if (level == ASK) {
        readAsk(text, depth);
      } else if (level == ONE) {
        readOne(text, depth);
      } else {
        readJoined(text, level, depth);
      }
    }

    private void readAsk(Text text, int depth) {
      if (kind == Kind.NOT) {
        if (mayOpen(depth)) {
          advance();
          readAsk(text, depth + 1);
          text.add(Kind.NOT, 0);
        }
        return;
      }
      readJoined(text, SUM, depth);
      int comparison = kind;
      if (levelOf(comparison) != ASK) {
        blame(CANT_STAND);
      }
      if (fault != 0) {
        return;
      }
      advance();
      readJoined(text, SUM, depth);
      text.add(comparison, 0);
    }

    private void readOne(Text text, int depth) {
      if (kind == Kind.MINUS) {
        if (mayOpen(depth)) {
          advance();
          readOne(text, depth + 1);
          text.add(Kind.NEGATE, 0);
        }
        return;
      }
      if (kind == Kind.OPEN) {
        if (mayOpen(depth)) {
          advance();
          readJoined(text, SUM, depth + 1);
          demand(Kind.CLOSE);
        }
      } else if (isOperand()) {
        text.add(kind, kind == Kind.NUMBER ? number : 0);
      }
      if (fault == 0) {
        advance();
      }
    }

    private boolean isOperand() {
      boolean isNumber = kind == Kind.NUMBER;
      if (!isNumber && !Kind.isName(kind)) {
        blame(CANT_STAND);
      } else if (isNumber && number > GREATEST_NUMBER) {
        blame(TOO_GREAT);
      } else if (!isNumber && !Kind.isNameOf(kind, clause)) {
        blame(NOT_OF_CLAUSE);
      }
      return fault == 0;
    }

    private boolean mayOpen(int depth) {
      if (depth >= DEEPEST) {
        blame(TOO_DEEP);
      }
      return fault == 0;
    }

    private void demand(int what) {
      if (kind != what) {
        blame(CANT_STAND);
      }
    }

    private static int levelOf(int kind) {
      switch (kind) {
        case Kind.OR:
          return EITHER;
        case Kind.AND:
          return BOTH;
        case Kind.LESS:
        case Kind.LESS_OR_EQUAL:
        case Kind.MORE:
        case Kind.MORE_OR_EQUAL:
        case Kind.EQUAL:
        case Kind.UNLIKE:
          return ASK;
        case Kind.PLUS:
        case Kind.MINUS:
          return SUM;
        case Kind.TIMES:
        case Kind.BY:
          return PRODUCT;
        default:
          return NONE;
      }
    }

    /** Only the first fault counts: what follows from it is none of its own. */
    private void blame(int what) {
      if (fault == 0) {
        fault = what;
        faultAt = start;
      }
    }

    private void advance() {
      start = next;
      for (int i = next; i < length && isBlank(tape[i]); i++) {
        start = i + 1;
      }
      if (start >= length) {
        kind = Kind.END;
        next = start;
        return;
      }
      int sign = tape[start];
      if (isLetter(sign)) {
        takeWord();
      } else if (isDigit(sign)) {
        takeNumber();
      } else {
        takeSign();
      }
    }

    private void takeWord() {
      next = start + 1;
      for (int i = next; i < length && isLetter(tape[i]); i++) {
        next = i + 1;
      }
      kind = Kind.NO_TOKEN;
      for (int word = Kind.NEAR; word <= Kind.NOT; word++) {
        if (isSpelt(Kind.spelling(word))) {
          kind = word;
        }
      }
    }

    private boolean isSpelt(String word) {
      if (word.length() != next - start) {
        return false;
      }
      for (int i = 0; i < word.length(); i++) {
        if (word.charAt(i) != tape[start + i]) {
          return false;
        }
      }
      return true;
    }

    private void takeNumber() {
      kind = Kind.NUMBER;
      number = 0;
      for (int i = start; i < length && isDigit(tape[i]); i++) {
        // However many digits follow, it stays just too great.
        number = Math.min(number * 10 + tape[i] - '0', GREATEST_NUMBER + 1);
        next = i + 1;
      }
    }

    private void takeSign() {
      kind = Kind.ofSign(tape[start]);
      next = start + 1;
      if (next < length && tape[next] == '=' && (kind == Kind.LESS || kind == Kind.MORE)) {
        kind = kind == Kind.LESS ? Kind.LESS_OR_EQUAL : Kind.MORE_OR_EQUAL;
        next++;
      }
    }

    private static boolean isBlank(int sign) {
      return sign == 32 || sign == 10;
    }

    private static boolean isLetter(int sign) {
      return (sign >= 'a' && sign <= 'z') || (sign >= 'A' && sign <= 'Z');
    }

    private static boolean isDigit(int sign) {
      return sign >= '0' && sign <= '9';
    }
  }

  /** Answers what the clauses of a text say of places, days and journeys. */
  private static final class Judge {
    private static final int STAY_WITHOUT = 14;
    private static final int STAY_AT_MOST = 99;
    private static final int NEED_WITHOUT = 20;
    private static final int NEED_AT_MOST = 9999;
    private static final int GREATEST = 1000000;
    // Eight that are open hold two values each; or, and and a comparison one more each.
    private static final int DEEPEST = 32;

    private final Canal canal;
    private final int[] named = new int[Kind.NAMES];
    private final int[] held = new int[DEEPEST];

    Judge(Canal canal) {
      this.canal = canal;
    }

    int placesRound(Text rule, int here) {
      int all = 1 << here;
      for (int there = 0; there < canal.places && rule.has(Kind.NEAR); there++) {
        nameHere(here);
        nameIt(Kind.THERE, there);
        nameIt(Kind.THEIRS, canal.parishes[there]);
        nameIt(Kind.MILES, canal.openDistance(here, there));
        if (valueOf(rule, Kind.NEAR) != 0) {
          all |= 1 << there;
        }
      }
      return all;
    }

    /** Those of some places at which the day is excused by the rule. */
    int placesExcused(Text rule, int places, int day) {
      int all = 0;
      for (int here = 0; here < canal.places && rule.has(Kind.EXCUSE); here++) {
        if (!hasBit(places, here)) {
          continue;
        }
        nameHere(here);
        nameIt(Kind.DAY, day);
        if (valueOf(rule, Kind.EXCUSE) != 0) {
          all |= 1 << here;
        }
      }
      return all;
    }

    int stayLimit(Text rule, int here) {
      if (!rule.has(Kind.STAY)) {
        return STAY_WITHOUT;
      }
      nameHere(here);
      return Math.max(0, Math.min(STAY_AT_MOST, valueOf(rule, Kind.STAY)));
    }

    int milesNeeded(Text rule, int days) {
      if (!rule.has(Kind.NEED)) {
        return NEED_WITHOUT;
      }
      nameIt(Kind.DAYS_OF_JOURNEY, days);
      return Math.max(0, Math.min(NEED_AT_MOST, valueOf(rule, Kind.NEED)));
    }

    private void nameHere(int here) {
      nameIt(Kind.HERE, here);
      nameIt(Kind.PARISH, canal.parishes[here]);
    }

    private void nameIt(int name, int value) {
      named[name - Kind.HERE] = value;
    }

    private int valueOf(Text rule, int clause) {
      int count = 0;
      for (int i = rule.from(clause); i < rule.to(clause); i++) {
        int kind = rule.kindAt(i);
        if (kind == Kind.NUMBER || Kind.isName(kind)) {
          if (count < DEEPEST) {
            held[count] = kind == Kind.NUMBER ? rule.numberAt(i) : named[kind - Kind.HERE];
            count++;
          }
        } else if (kind == Kind.NOT || kind == Kind.NEGATE) {
          if (count > 0) {
            held[count - 1] = kind == Kind.NOT ? 1 - held[count - 1] : -held[count - 1];
          }
        } else if (count > 1) {
          count--;
          held[count - 1] = join(kind, held[count - 1], held[count]);
        }
      }
      return count > 0 ? held[0] : 0;
    }

    private static int join(int kind, int left, int right) {
      switch (kind) {
        case Kind.OR:
          return left | right;
        case Kind.AND:
          return left & right;
        case Kind.LESS:
          return left < right ? 1 : 0;
        case Kind.LESS_OR_EQUAL:
          return left <= right ? 1 : 0;
        case Kind.MORE:
          return left > right ? 1 : 0;
        case Kind.MORE_OR_EQUAL:
          return left >= right ? 1 : 0;
        case Kind.EQUAL:
          return left == right ? 1 : 0;
        case Kind.UNLIKE:
          return left != right ? 1 : 0;
        case Kind.PLUS:
          return bounded((long) left + right);
        case Kind.MINUS:
          return bounded((long) left - right);
        case Kind.TIMES:
          return bounded((long) left * right);
        case Kind.BY:
          return right == 0 ? 0 : left / right;
        default:
          return 0;
      }
    }

    private static int bounded(long value) {
      return (int) Math.max(-GREATEST, Math.min(GREATEST, value));
    }
  }
}
