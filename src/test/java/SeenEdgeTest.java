/**
 * Promises 49 to 57: what was seen in rows that are empty, full, not three each, or have a number
 * that is none such; the homes 0 .. 20 and the LAWS 0 .. 3 that fit them, all, one and none.
 */
public final class SeenEdgeTest {
  private static final Check C = new Check();

  /** The CAR goes as far as RIDER 0's home: each home below 11 leaves it elsewhere. */
  private static final String FAR = "road places 12 law 1 seats 1 odds 0;car from 0 to 11 load 9;"
      + "rider at 0 says 12 home 5;";

  public static void main(String[] args) {
    emptyRow();
    looks();
    noneFits();
    fullRow();
    sizes();
    numbersOfCars();
    numbersOfSteps();
    numbersOfPlaces();
    numbersCut();
    refusedFirst();
    withoutCars();
    asks();
    neverHome();
    lawsSeen();
    lawsInPlace();
    nothingStays();
    C.close();
  }

  private static void all(String what, NorthRoad x, int slot, int rider, int... due) {
    C.due("49 house, " + what, x.house(slot, rider), due[0]);
    C.due("50 least, " + what, x.least(slot, rider), due[1]);
    C.due("51 most, " + what, x.most(slot, rider), due[2]);
    C.due("52 ask, " + what, x.ask(slot, rider), due[3]);
    C.due("53 leaves, " + what, x.leaves(slot, rider), due[4]);
    C.due("54 odds above, " + what, x.odds(slot, rider, 0), due[5]);
    C.due("54 odds below, " + what, x.odds(slot, rider, 1), due[6]);
  }

  private static void refused(String what, NorthRoad x, int slot, int rider, int due) {
    all(what, x, slot, rider, due, due, due, due, due, due, due);
    C.due("55 laws, " + what, x.laws(slot), due);
  }

  private static void emptyRow() {
    NorthRoad x = Check.of(FAR);
    for (int width = 0; width < 4; width++) {
      x.row(0, width, 0);
      all("nothing was seen", x, 0, 0, 21, 0, 20, 11, 10, 4, 7);
      C.due("55 nothing was seen", x.laws(0), 15);
    }
  }

  private static void looks() {
    NorthRoad x = Check.of(FAR);
    C.fill(x, 0, 0, 0, 0, 0);
    all("where it always is at STEP 0", x, 0, 0, 21, 0, 20, 11, 10, 4, 7);
    C.fill(x, 0, 0, 0, 24, 0);
    all("it stays: he is at home at once", x, 0, 0, 1, 0, 0, -1, 1, 1, 1);
    C.fill(x, 0, 0, 0, 1, 1);
    all("it goes", x, 0, 0, 20, 1, 20, 11, 10, 11, 20);
    C.fill(x, 0, 0, 0, 24, 5);
    all("one home alone", x, 0, 0, 1, 5, 5, -1, 1, 1, 1);
    C.fill(x, 0, 0, 0, 24, 10);
    all("10", x, 0, 0, 1, 10, 10, -1, 1, 1, 1);
    C.fill(x, 0, 0, 0, 24, 11);
    all("11 and all beyond", x, 0, 0, 10, 11, 20, -1, 10, 1, 10);
    C.fill(x, 0, 0, 0, 10, 10);
    all("10 and all beyond", x, 0, 0, 11, 10, 20, 11, 10, 2, 11);
    C.fill(x, 0, 0, 0, 3, 3, 0, 5, 4);
    all("two looks", x, 0, 0, 1, 4, 4, -1, 1, 1, 1);
  }

  private static void noneFits() {
    NorthRoad x = Check.of(FAR);
    long[][] rows = {{0, 0, 1}, {0, 1, 2}, {0, 24, 5, 0, 24, 6}, {0, 10, 11}, {0, 1, 0, 0, 24, 1}};
    for (long[] row : rows) {
      C.fill(x, 0, 0, row);
      all("none fits", x, 0, 0, 0, -1, -1, -1, 0, -1, -1);
      C.due("55 no LAW fits", x.laws(0), 0);
    }
  }

  private static long[] twenty() {
    long[] row = new long[60];
    for (int k = 0; k < 20; k++) {
      row[3 * k + 1] = k;
      row[3 * k + 2] = Math.min(k, 5);
    }
    return row;
  }

  private static void fullRow() {
    NorthRoad x = Check.of(FAR);
    C.fill(x, 0, 2, twenty());
    all("twenty looks", x, 0, 0, 1, 5, 5, -1, 1, 1, 1);
    C.due("55 twenty looks", x.laws(0), 14);
    x.write(0, 59, 6);
    all("the last one does not fit", x, 0, 0, 0, -1, -1, -1, 0, -1, -1);
    C.due("55 the last one does not fit", x.laws(0), 0);
    for (int k = 57; k < 60; k++) {
      for (long none : new long[] {-1, k == 57 ? 1 : k == 58 ? 25 : 12}) {
        C.fill(x, 1, 2, twenty());
        x.write(1, k, none);
        refused("the last three have none such", x, 1, 0, -2);
      }
      C.fill(x, 1, 3, twenty());
      x.write(1, k - 57, Long.MIN_VALUE);
      refused("the first three have none such", x, 1, 0, -2);
    }
    NorthRoad y = Check.of(FAR);
    y.row(3, 0, 60);
    all("twenty times STEP 0", y, 3, 0, 21, 0, 20, 11, 10, 4, 7);
  }

  private static void sizes() {
    for (int n = 0; n <= 60; n++) {
      NorthRoad x = Check.of(FAR);
      x.row(2, 1, n);
      C.due("49 three each, " + n, x.house(2, 0), n % 3 == 0 ? 21 : -2);
      C.due("50 three each, " + n, x.least(2, 0), n % 3 == 0 ? 0 : -2);
      C.due("51 three each, " + n, x.most(2, 0), n % 3 == 0 ? 20 : -2);
      C.due("52 three each, " + n, x.ask(2, 0), n % 3 == 0 ? 11 : -2);
      C.due("53 three each, " + n, x.leaves(2, 0), n % 3 == 0 ? 10 : -2);
      C.due("54 three each, " + n, x.odds(2, 0, 1), n % 3 == 0 ? 7 : -2);
      C.due("55 three each, " + n, x.laws(2), n % 3 == 0 ? 15 : -2);
    }
  }

  private static void numbersOfCars() {
    String three = "road places 2 law 1 seats 1 odds 0;" + "car from 0 to 1 load 1;".repeat(3) + "rider at 1 says 0 home 1;";
    for (int cars = 1; cars <= 3; cars++) {
      NorthRoad x = Check.of(three.replaceFirst("(car from 0 to 1 load 1;){" + (3 - cars) + "}", ""));
      C.due("70 CARS", x.count(4), cars);
      C.fill(x, 0, 0, cars - 1, 0, 0);
      C.due("49 the last CAR", x.house(0, 0), 21);
      C.due("55 the last CAR", x.laws(0), 15);
      for (long none : new long[] {cars, -1, 127, -128}) {
        C.fill(x, 0, 0, none, 0, 0);
        refused("no CAR " + none, x, 0, 0, -2);
      }
    }
  }

  private static void numbersOfSteps() {
    NorthRoad x = Check.of(FAR);
    C.fill(x, 0, 0, 0, 24, 5);
    C.due("49 STEP 24", x.house(0, 0), 1);
    C.due("55 STEP 24", x.laws(0), 14);
    for (long none : new long[] {25, -1, 127, -128}) {
      C.fill(x, 0, 0, 0, none, 5);
      refused("no STEP " + none, x, 0, 0, -2);
    }
  }

  private static void numbersOfPlaces() {
    for (int places = 2; places <= 12; places++) {
      NorthRoad x = Check.of(FAR.replace("places 12", "places " + places).replace("to 11", "to " + (places - 1)));
      C.fill(x, 0, 0, 0, 24, places - 1);
      C.due("50 the last PLACE", x.least(0, 0), places - 1);
      C.fill(x, 1, 0, 0, 24, places);
      refused("no PLACE " + places, x, 1, 0, -2);
      C.fill(x, 1, 0, 0, 24, -1);
      refused("no PLACE -1", x, 1, 0, -2);
    }
  }

  /** Cut to its WIDTH a number may become one such; held whole it is none. */
  private static void numbersCut() {
    NorthRoad x = Check.of(FAR);
    int[] bits = {8, 16, 32};
    for (int width = 0; width < 3; width++) {
      long more = 1L << bits[width];
      C.fill(x, 0, width, more, 24 - more, 5 + more);
      all("cut", x, 0, 0, 1, 5, 5, -1, 1, 1, 1);
      C.fill(x, 1, width + 1, more, 24, 5);
      refused("not cut, a CAR", x, 1, 0, -2);
      C.fill(x, 1, width + 1, 0, more + 24, 5);
      refused("not cut, a STEP", x, 1, 0, -2);
      C.fill(x, 1, width + 1, 0, 24, more + 5);
      refused("not cut, a PLACE", x, 1, 0, -2);
    }
    for (long far : new long[] {Long.MAX_VALUE, Long.MIN_VALUE, 1L << 32, -1L << 32, Integer.MIN_VALUE}) {
      C.fill(x, 2, 3, far, 0, 0);
      refused("a CAR far off", x, 2, 0, -2);
      C.fill(x, 2, 3, 0, far, 0);
      refused("a STEP far off", x, 2, 0, -2);
      C.fill(x, 2, 3, 0, 0, far);
      refused("a PLACE far off", x, 2, 0, -2);
    }
  }

  private static void refusedFirst() {
    NorthRoad x = new NorthRoad();
    x.row(0, 0, 0);
    refused("no ROAD", x, 0, 0, -2);
    refused("no ROAD, ahead of nothing", x, 1, 0, -2);
    Check.read(x, FAR);
    refused("it has nothing", x, 1, 0, -6);
    refused("it has nothing", x, 3, 0, -6);
    for (int slot : new int[] {-1, 4, Integer.MIN_VALUE, Integer.MAX_VALUE}) {
      refused("no SLOT " + slot, x, slot, 0, -2);
    }
    for (int rider : new int[] {1, -1, 6, Integer.MIN_VALUE, Integer.MAX_VALUE}) {
      all("no RIDER " + rider, x, 0, rider, -2, -2, -2, -2, -2, -2, -2);
      all("no RIDER, ahead of nothing", x, 1, rider, -2, -2, -2, -2, -2, -2, -2);
    }
    for (int what : new int[] {2, -1, Integer.MIN_VALUE, Integer.MAX_VALUE}) {
      C.due("54 no what " + what, x.odds(0, 0, what), -2);
      C.due("54 no what, ahead of nothing", x.odds(1, 0, what), -2);
    }
    NorthRoad none = Check.of("road places 2 law 1 seats 1 odds 0;car from 0 to 1 load 1;");
    none.row(0, 0, 0);
    all("without RIDERS", none, 0, 0, -2, -2, -2, -2, -2, -2, -2);
    C.due("55 RIDERS aside", none.laws(0), 15);
    C.due("55 it has nothing", none.laws(1), -6);
  }

  private static void withoutCars() {
    NorthRoad x = Check.of("road places 3 law 1 seats 1 odds 0;rider at 2 says 9 home 9;");
    x.row(0, 0, 0);
    all("there is nothing to see", x, 0, 0, 21, 0, 20, -1, 21, 1, 21);
    C.due("55 there is nothing to see", x.laws(0), 15);
    x.row(0, 0, 3);
    refused("no CAR 0", x, 0, 0, -2);
  }

  private static void asks() {
    NorthRoad third = Check.of("road places 12 law 1 seats 1 odds 0;car from 5 to 6 load 1;car from 7 to 8 load 1;"
        + "car from 0 to 11 load 1;rider at 0 says 12 home 5;");
    third.row(0, 0, 0);
    C.due("52 CAR 2, STEP 11", third.ask(0, 0), 211);
    C.due("53 the homes 11 .. 20", third.leaves(0, 0), 10);
    // both CARS go on if his home is 2 or further: the first one at STEP 0, the other one at STEP 1
    String road = "road places 4 law 2 seats 3 odds 0;";
    String first = "car from 1 to 2 load 1;";
    String other = "car from 2 to 3 load 1;";
    String riders = "rider at 1 says 9 home 5;rider at 1 says 9 home 9;rider at 1 says 2 home 0;";
    NorthRoad x = Check.of(road + first + other + riders);
    x.row(0, 0, 0);
    all("the first CAR of two", x, 0, 0, 21, 0, 20, 1, 19, 1, 7);
    NorthRoad y = Check.of(road + other + first + riders);
    y.row(0, 0, 0);
    all("the first CAR, though at a later STEP", y, 0, 0, 21, 0, 20, 2, 19, 1, 7);
    C.fill(y, 0, 0, 1, 1, 1);
    all("two are left, which look the same", y, 0, 0, 2, 0, 1, -1, 2, 1, 2);
  }

  private static void neverHome() {
    NorthRoad x = Check.of("road places 12 law 0 seats 1 odds 0;car from 0 to 3 load 9;rider at 0 says 12 home 5;");
    C.fill(x, 0, 0, 0, 24, 3);
    all("beyond where it goes to", x, 0, 0, 17, 4, 20, -1, 17, 0, 1);
  }

  private static void lawsSeen() {
    NorthRoad x = Check.of("road places 2 law 1 seats 1 odds 0;car from 0 to 1 load 1;");
    C.fill(x, 0, 0, 0, 1, 1);
    C.due("55 LAW 3 alone", x.laws(0), 8);
    C.fill(x, 0, 0, 0, 1, 0);
    C.due("55 the others", x.laws(0), 7);
    C.fill(x, 0, 0, 0, 0, 0);
    C.due("55 all", x.laws(0), 15);
    C.fill(x, 0, 0, 0, 0, 1);
    C.due("55 none", x.laws(0), 0);
    NorthRoad half = Check.of("road places 4 law 3 seats 2 odds 0;car from 1 to 3 load 8;rider at 1 says 2 home 2;"
        + "rider at 1 says 2 home 0;");
    C.fill(half, 0, 0, 0, 1, 2);
    C.due("55 LAWS 1 and 3: one of two goes further", half.laws(0), 10);
    C.fill(half, 0, 0, 0, 1, 1);
    C.due("55 LAWS 0 and 2", half.laws(0), 5);
    half.bar(0, 1, 1);
    C.fill(half, 0, 0, 0, 1, 2);
    C.due("55 bars count: LAWS 1, 2 and 3", half.laws(0), 14);
  }

  private static void lawsInPlace() {
    NorthRoad even = Check.of("road places 2 law 0 seats 1 odds 0;car from 0 to 1 load 9;");
    int[] loads = {0, 0, 0, 9};
    for (int law = 0; law < 4; law++) {
      C.due("56 by(" + law + ")", even.by(law), loads[law]);
    }
    C.due("57 LAW 3", even.law(), 3);
    NorthRoad one = Check.of("road places 2 law 3 seats 1 odds 0;car from 0 to 1 load 9;rider at 0 says 1 home 1;");
    int[] ones = {0, 9, 9, 9};
    for (int law = 0; law < 4; law++) {
      C.due("56 by(" + law + ")", one.by(law), ones[law]);
    }
    C.due("57 the least of several", one.law(), 1);
    one.bar(0, 0, 1);
    C.due("56 bars count", one.by(1), 0);
    C.due("57 bars count", one.law(), 3);
    NorthRoad bare = Check.of("road places 2 law 3 seats 1 odds 0;");
    C.due("56 without CARS", bare.by(3), 0);
    C.due("57 without CARS, the least", bare.law(), 0);
    for (int law : new int[] {-1, 4, Integer.MIN_VALUE, Integer.MAX_VALUE}) {
      C.due("56 no LAW " + law, one.by(law), -2);
    }
    NorthRoad none = new NorthRoad();
    C.due("56 no ROAD", none.by(0), -2);
    C.due("57 no ROAD", none.law(), -2);
  }

  private static void nothingStays() {
    NorthRoad x = Check.of(FAR);
    C.fill(x, 0, 0, 0, 24, 11);
    String before = State.of(x);
    all("11 and all beyond", x, 0, 0, 10, 11, 20, -1, 10, 1, 10);
    x.laws(0);
    x.by(0);
    x.law();
    C.same("49 to 57 ask alone", before, State.of(x));
    C.due("7 the home told", x.rider(0, 2), 5);
    C.due("70 the LAW told", x.count(1), 1);
    C.due("8 the day as told", x.at(0, 24), 5);
  }
}
