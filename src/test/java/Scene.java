import java.util.ArrayList;
import java.util.List;

/** Objects that many tests begin with, and how to see that a call changed nothing. */
final class Scene {
  static final int MIN = Integer.MIN_VALUE;
  static final int MAX = Integer.MAX_VALUE;

  /** Days that are none. */
  static final int[] NO_DAYS = {-1, 60, 61, MIN, MAX};

  private Scene() {}

  /** Places in a row, the i-th of parish i, each some miles from the next; a pace; boats. */
  static BoatsMoveOn row(int places, int miles, int pace, int boats) {
    BoatsMoveOn x = new BoatsMoveOn();
    for (int i = 0; i < places; i++) {
      x.place(i);
      x.way(i - 1, i, miles);
    }
    x.pace(pace);
    for (int i = 0; i < boats; i++) {
      x.boat();
    }
    return x;
  }

  /** Two places that are too far from each other: a boat stays where it is seen. */
  static BoatsMoveOn still(int boats) {
    return row(2, 5, 4, boats);
  }

  /** A boat was seen at each of some places, from a day on, told at once. */
  static void seenDaily(BoatsMoveOn x, int boat, int from, int... places) {
    for (int i = 0; i < places.length; i++) {
      x.seen(boat, places[i], from + i, from + i);
    }
  }

  /** All that can be counted, letters and the latest fault among it (27 calls). */
  static List<Integer> counts(BoatsMoveOn x) {
    List<Integer> counts = new ArrayList<>();
    for (int what = 0; what <= 8; what++) {
      counts.add(x.about(what));
    }
    for (int boat = 0; boat < 8; boat++) {
      counts.add(x.about(10 + boat));
      counts.add(x.about(20 + boat));
    }
    counts.add(x.fault(0));
    counts.add(x.fault(1));
    return counts;
  }
}
