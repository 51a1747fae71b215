/**
 * Promises 63 to 66 and 69 to 72: no acts and forty, acts that change nothing, what is refused and
 * what stays then, and IMAGES of all this.
 */
public final class ActEdgeTest {
  private static final Check C = new Check();
  private static final int MIN = Integer.MIN_VALUE;
  private static final int MAX = Integer.MAX_VALUE;

  /** Three CARS and six RIDERS at PLACE 0: the first three of them drive. */
  private static final String FULL = "road places 4 law 1 seats 1 odds 3;car from 0 to 1 load 1;car from 0 to 2 load 20;"
      + "car from 0 to 3 load 50;rider at 0 says 1 home 3;rider at 0 says 2 home 3;rider at 0 says 3 home 3;"
      + "rider at 0 says 4 home 3;rider at 0 says 5 home 3;rider at 0 says 6 home 3;";

  public static void main(String[] args) {
    bars();
    barsAgain();
    tells();
    fortyBars();
    fortyTells();
    undoes();
    anews();
    refused();
    rates();
    ratesAndActs();
    counts();
    imagesNone();
    imagesKeep();
    imagesOfActs();
    imagesOfOtherActs();
    imagesStay();
    C.close();
  }

  private static void bars() {
    for (int car = 0; car < 3; car++) {
      for (int rider = 0; rider < 6; rider++) {
        NorthRoad x = Check.of(FULL);
        int first = x.aboard(car, 0);
        C.due("63 not barred ahead", x.bar(car, rider, 1), 0);
        C.due("63 one act", x.count(6), 1);
        C.due("63 it takes him no more", x.aboard(car, 0) & 1 << rider, 0);
        C.due("63 but the next one", (x.aboard(car, 0) != first) == (rider == car));
        C.due("63 barred ahead", x.bar(car, rider, 1), 1);
        C.due("63 an act all the same", x.count(6), 2);
        C.due("63 barred ahead, now not", x.bar(car, rider, 0), 1);
        C.due("63 it takes him again", x.aboard(car, 0), first);
        C.due("63 not barred ahead, nor now", x.bar(car, rider, 0), 0);
        C.due("63 four acts", x.count(6), 4);
      }
    }
  }

  private static void barsAgain() {
    NorthRoad x = Check.of(FULL);
    C.due("63 CAR 0 alone", x.bar(0, 0, 1), 0);
    C.due("63 by numbers the next CAR takes him", x.aboard(1, 0), 1);
    C.due("63 and CAR 0 the next RIDER", x.aboard(0, 0), 2);
    C.due("63 not barred from CAR 1", x.bar(1, 0, 1), 0);
    C.due("63 nor from CAR 2", x.aboard(2, 0), 1);
    C.due("63 now he is", x.bar(2, 0, 1), 0);
    C.due("63 he waits", x.waiting(0, 0), 1 + 16 + 32);
    C.due("35 and misses all three, at STEP 0", x.missed(0), 1);
    NorthRoad all = Check.of(FULL);
    for (int k = 0; k < 18; k++) {
      all.bar(k / 6, k % 6, 1);
    }
    C.due("63 all from all", all.waiting(0, 24), 63);
    C.due("63 no CAR goes", all.idle(24), 7);
  }

  private static void tells() {
    for (int n : new int[] {0, 1, 50, 98, 99}) {
      NorthRoad x = Check.of(FULL);
      C.due("64 what he said", x.tell(5, n), 6);
      C.due("64 what he says", x.rider(5, 1), n);
      C.due("64 again", x.tell(5, n), n);
      C.due("64 two acts", x.count(6), 2);
    }
    NorthRoad x = Check.of(FULL);
    C.due("64 from STEP 0 on", x.tell(0, 0), 1);
    C.due("64 RIDER 1 gets in", x.aboard(0, 0), 2);
    C.due("64 he waits", x.waits(0), 25);
  }

  private static NorthRoad forty(boolean bars) {
    NorthRoad x = Check.of(FULL);
    for (int k = 0; k < 40; k++) {
      C.due("63, 64 act " + k, bars ? x.bar(k % 3, k % 6, 1) : x.tell(k % 6, k), bars ? k < 6 ? 0 : 1 : k < 6 ? k + 1 : k - 6);
    }
    C.due("63, 64 forty acts", x.count(6), 40);
    return x;
  }

  private static void fortyBars() {
    NorthRoad x = forty(true);
    String before = State.of(x);
    C.due("63 there were 40", x.bar(1, 0, 1), -5);
    C.due("63 there were 40", x.bar(0, 0, 0), -5);
    C.due("63 there were 40, though nothing would change", x.bar(0, 0, 1), -5);
    C.due("64 there were 40", x.tell(0, 0), -5);
    C.same("63 -5", before, State.of(x));
    C.due("65 the 40th", x.undo(), 39);
    C.due("63 room for one", x.bar(1, 0, 1), 0);
    C.due("63 forty", x.count(6), 40);
    C.due("63 and no more", x.bar(1, 0, 1), -5);
  }

  private static void fortyTells() {
    NorthRoad x = forty(false);
    String before = State.of(x);
    C.due("64 there were 40", x.tell(0, 99), -5);
    C.due("64 there were 40, though nothing would change", x.tell(3, 39), -5);
    C.due("63 there were 40", x.bar(0, 0, 1), -5);
    C.same("64 -5", before, State.of(x));
    C.due("66 forty", x.anew(), 40);
    for (int rider = 0; rider < 6; rider++) {
      C.due("66 as told", x.rider(rider, 1), rider + 1);
    }
    C.due("64 room again", x.tell(0, 9), 1);
  }

  private static void undoes() {
    NorthRoad x = Check.of(FULL);
    String told = State.of(x);
    C.due("65 there is none", x.undo(), -5);
    C.same("65 -5", told, State.of(x));
    NorthRoad y = forty(false);
    for (int k = 39; k >= 0; k--) {
      C.due("65 how many there are", y.undo(), k);
      C.due("65 what he said ahead", y.rider(k % 6, 1), k < 6 ? k + 1 : k - 6);
    }
    C.due("65 there is none any more", y.undo(), -5);
    C.same("65 all taken back", told, State.of(y));
    NorthRoad z = forty(true);
    for (int k = 39; k >= 0; k--) {
      C.due("65 how many there are", z.undo(), k);
    }
    C.same("65 all taken back", told, State.of(z));
    C.due("63 barred", z.bar(0, 0, 1), 0);
    C.due("63 barred still", z.bar(0, 0, 1), 1);
    C.due("65 the latest", z.undo(), 1);
    C.due("65 he is barred still, by the first", z.aboard(0, 0), 2);
    C.due("63 barred no more", z.bar(0, 0, 0), 1);
    C.due("65 the latest", z.undo(), 1);
    C.due("65 he is barred again", z.aboard(0, 0), 2);
    C.due("65 the first", z.undo(), 0);
    C.due("65 he is barred no more", z.aboard(0, 0), 1);
    NorthRoad none = new NorthRoad();
    C.due("65 no ROAD", none.undo(), -2);
  }

  private static void anews() {
    NorthRoad x = Check.of(FULL);
    String told = State.of(x);
    C.due("66 none", x.anew(), 0);
    C.same("66 none", told, State.of(x));
    x.tell(0, 9);
    x.bar(0, 0, 1);
    x.bar(0, 0, 0);
    C.due("66 three", x.anew(), 3);
    C.same("66 all taken back", told, State.of(x));
    C.due("66 none any more", x.anew(), 0);
    C.due("65 none any more", x.undo(), -5);
    C.due("66 of forty", forty(true).anew(), 40);
    C.due("66 no ROAD", new NorthRoad().anew(), -2);
  }

  /** -2 is asked ahead of -5; whichever it is, all stays. */
  private static void refused() {
    for (boolean full : new boolean[] {false, true}) {
      NorthRoad x = full ? forty(true) : Check.of(FULL);
      String before = State.of(x);
      for (int none : new int[] {3, -1, MIN, MAX}) {
        C.due("63 no CAR " + none, x.bar(none, 0, 1), -2);
        C.due("69 no CAR " + none, x.rate(none, 0), -2);
      }
      for (int none : new int[] {6, -1, MIN, MAX}) {
        C.due("63 no RIDER " + none, x.bar(0, none, 1), -2);
        C.due("64 no RIDER " + none, x.tell(none, 0), -2);
      }
      for (int none : new int[] {2, -1, MIN, MAX}) {
        C.due("63 no on " + none, x.bar(0, 0, none), -2);
      }
      for (int none : new int[] {100, -1, MIN, MAX}) {
        C.due("64 no n " + none, x.tell(0, none), -2);
        C.due("69 no n " + none, x.rate(0, none), -2);
      }
      C.same("63, 64, 69 refused", before, State.of(x));
    }
    NorthRoad none = new NorthRoad();
    C.due("63 no ROAD", none.bar(0, 0, 1), -2);
    C.due("64 no ROAD", none.tell(0, 0), -2);
    C.due("69 no ROAD", none.rate(0, 0), -2);
    NorthRoad noCar = Check.of("road places 2 law 1 seats 1 odds 0;rider at 0 says 1 home 1;");
    C.due("63 no CARS", noCar.bar(0, 0, 1), -2);
    C.due("69 no CARS", noCar.rate(0, 0), -2);
    C.due("64 without CARS", noCar.tell(0, 9), 1);
    NorthRoad noRider = Check.of("road places 2 law 1 seats 1 odds 0;car from 0 to 1 load 1;");
    C.due("63 no RIDERS", noRider.bar(0, 0, 1), -2);
    C.due("64 no RIDERS", noRider.tell(0, 0), -2);
    C.due("69 without RIDERS", noRider.rate(0, 9), 1);
  }

  private static void rates() {
    NorthRoad x = Check.of(FULL);
    C.due("69 what it was", x.rate(2, 0), 50);
    C.due("69 0", x.car(2, 2), 0);
    C.due("69 loads", x.loads(24), 21);
    C.due("69 what it was", x.rate(2, 99), 0);
    C.due("69 99", x.car(2, 2), 99);
    C.due("69 loads", x.loads(24), 120);
    C.due("69 what each brings", x.best(), 120);
    C.due("69 the same", x.rate(2, 99), 99);
    C.due("69 no act", x.count(6), 0);
    C.due("65 not to be undone", x.undo(), -5);
    C.due("66 nor by anew", x.anew(), 0);
    C.due("69 still 99", x.car(2, 2), 99);
    C.due("4 told anew", Check.read(x, FULL), 10);
    C.due("4 as told", x.car(2, 2), 50);
  }

  private static void ratesAndActs() {
    NorthRoad x = Check.of(FULL);
    x.tell(0, 1);
    String before = State.of(x);
    C.due("69 there were acts", x.rate(0, 9), -5);
    C.due("69 there were acts, though nothing would change", x.rate(0, 1), -5);
    C.same("69 -5", before, State.of(x));
    x.undo();
    C.due("69 none are left", x.rate(0, 9), 1);
    x.bar(0, 0, 0);
    C.due("69 there were acts", x.rate(0, 1), -5);
    x.anew();
    C.due("69 none are left", x.rate(0, 1), 9);
    C.due("69 forty", forty(true).rate(0, 1), -5);
  }

  private static void counts() {
    NorthRoad x = Check.of(FULL);
    int[] due = {4, 1, 1, 3, 3, 6, 0, 10, 0, 0};
    for (int what = 0; what < 10; what++) {
      C.due("70 count(" + what + ")", x.count(what), due[what]);
    }
    for (int none : new int[] {10, 11, -1, -2, MIN, MAX}) {
      C.due("70 none for " + none, x.count(none), -1);
      C.due("70 none for " + none + " without a ROAD", new NorthRoad().count(none), -1);
    }
    for (int slot = 0; slot < 4; slot++) {
      x.row(slot, slot, 0);
      C.due("70 SLOTS that have a row", x.count(9), slot + 1);
      x.row(slot, slot, 60);
      C.due("70 in place of another", x.count(9), slot + 1);
    }
    x.feed(0, 0, 0, 0, 0);
    C.due("70 bytes", x.count(8), 20);
    x.end(7);
    C.due("70 bytes", x.count(8), 7);
    C.due("70 acts of forty", forty(false).count(6), 40);
  }

  private static void imagesNone() {
    NorthRoad x = Check.of(FULL);
    x.tell(0, 9);
    String before = State.of(x);
    for (int k : new int[] {3, -1, MIN, MAX}) {
      C.due("71 no IMAGE " + k, x.image(k), -2);
      C.due("72 no IMAGE " + k, x.back(k), -2);
    }
    for (int k = 0; k < 3; k++) {
      C.due("72 it has nothing", x.back(k), -6);
    }
    C.same("71, 72 refused", before, State.of(x));
    C.due("71 the last", x.image(2), 0);
    C.due("72 the last", x.back(2), 0);
    C.due("72 the others have nothing", x.back(0), -6);
    C.due("72 the others have nothing", x.back(1), -6);
    NorthRoad none = new NorthRoad();
    C.due("71 without a ROAD", none.image(0), 0);
    C.due("72 of no ROAD", none.back(0), 0);
    Check.read(none, FULL);
    C.due("72 of no ROAD", none.back(0), 0);
    C.due("72 no ROAD", none.count(7), 0);
    C.due("72 no ROAD", none.ends(), -2);
  }

  private static void imagesKeep() {
    NorthRoad x = Check.of(FULL);
    String first = State.of(x);
    C.due("71 keeps", x.image(0), 0);
    C.same("71 nothing else happens", first, State.of(x));
    x.rate(1, 7);
    x.tell(0, 0);
    String second = State.of(x);
    C.due("71 keeps", x.image(1), 0);
    Check.read(x, "road places 12 law 3 seats 4 odds 10;");
    String third = State.of(x);
    C.due("71 keeps", x.image(2), 0);
    C.due("72 as it has it", x.back(1), 0);
    C.same("72 as it has it", second, State.of(x));
    x.bar(0, 1, 1);
    x.undo();
    x.undo();
    C.due("65 it takes back what was done ahead of the IMAGE", x.rider(0, 1), 1);
    C.due("72 as it has it", x.back(2), 0);
    C.same("72 as it has it", third, State.of(x));
    C.due("72 as it has it", x.back(0), 0);
    C.same("72 as it has it", first, State.of(x));
    C.due("72 once more", x.back(1), 0);
    C.same("72 what was done since is not in it", second, State.of(x));
    C.due("71 in place of another", x.image(0), 0);
    x.anew();
    x.back(0);
    C.same("71 in place of another", second, State.of(x));
  }

  private static void imagesOfActs() {
    NorthRoad x = forty(false);
    x.image(0);
    x.anew();
    x.rate(0, 77);
    C.due("72 forty again", x.back(0), 0);
    C.due("72 forty", x.count(6), 40);
    C.due("72 load as it was", x.car(0, 2), 1);
    C.due("72 no more", x.tell(0, 0), -5);
    C.due("72 nor rate", x.rate(0, 0), -5);
    for (int k = 39; k >= 0; k--) {
      C.due("72 taken back", x.undo(), k);
      C.due("72 taken back", x.rider(k % 6, 1), k < 6 ? k + 1 : k - 6);
    }
    x.back(0);
    C.due("72 all at once", x.anew(), 40);
  }

  /** An IMAGE has its own acts: others that were done since are not taken back in their stead. */
  private static void imagesOfOtherActs() {
    NorthRoad x = Check.of(FULL);
    x.tell(0, 11);
    x.bar(1, 2, 1);
    x.tell(0, 12);
    x.image(1);
    x.anew();
    x.bar(2, 5, 1);
    x.tell(4, 77);
    x.bar(0, 3, 1);
    x.tell(3, 88);
    C.due("72 back", x.back(1), 0);
    C.due("72 three acts", x.count(6), 3);
    C.due("65 the third", x.undo(), 2);
    C.due("65 he says", x.rider(0, 1), 11);
    C.due("63 he is barred", x.bar(1, 2, 1), 1);
    C.due("65 the fourth", x.undo(), 2);
    C.due("65 the second", x.undo(), 1);
    C.due("63 he is not barred any more", x.bar(1, 2, 0), 0);
    C.due("65 it too", x.undo(), 1);
    C.due("65 the first", x.undo(), 0);
    C.same("65 as told", State.of(Check.of(FULL)), State.of(x));
    C.due("72 back", x.back(1), 0);
    x.undo();
    x.tell(5, 1);
    C.due("71 kept anew", x.image(2), 0);
    C.due("72 the first as it was", x.back(1), 0);
    C.due("64 he said", x.rider(0, 1), 12);
    C.due("72 the other", x.back(2), 0);
    C.due("65 its last", x.undo(), 2);
    C.due("65 he says as told", x.rider(5, 1), 6);
  }

  private static void imagesStay() {
    NorthRoad x = Check.of(FULL);
    x.image(0);
    Check.put(x, "?");
    x.road();
    C.fill(x, 1, 0, 1, 2, 3);
    x.back(0);
    C.due("72 the TAPE stays", x.count(8), 1);
    C.due("72 the FAULT stays", x.fault(0), 1);
    C.due("72 its place stays", x.fault(1), 0);
    C.due("72 SLOTS stay", x.count(9), 1);
    C.due("72 three numbers", State.sizeOf(x, 1), 3);
  }
}
