/** An object is used for 512 calls: nothing in it runs out by the last of them, whatever they are. */
public final class LifeTest {
  private static final Check C = new Check();
  private static final int CALLS = 512;

  /** CAR 0 takes RIDERS 0 to 3 and goes by them to PLACE 9; the others have no RIDER, and stay. */
  private static final String FULL = "road places 12 law 1 seats 4 odds 5;"
      + "car from 0 to 9 load 9;car from 1 to 9 load 8;car from 2 to 9 load 7;"
      + "rider at 0 says 9 home 11;rider at 0 says 9 home 11;rider at 0 says 9 home 11;"
      + "rider at 0 says 9 home 11;rider at 0 says 9 home 11;rider at 0 says 9 home 11;";

  public static void main(String[] args) {
    texts();
    bytes();
    faults();
    questions();
    acts();
    undone();
    images();
    rows();
    C.close();
  }

  /** How many calls Check.read makes: end, a feed for twenty bytes each, end, road. */
  private static int callsToRead() {
    return 3 + (FULL.length() + 19) / 20;
  }

  private static void texts() {
    NorthRoad x = new NorthRoad();
    for (int call = callsToRead(); call <= CALLS; call += callsToRead()) {
      C.due("4 a text read, to call " + call, Check.read(x, FULL), 10);
    }
  }

  private static void bytes() {
    NorthRoad x = new NorthRoad();
    for (int call = 1; call <= CALLS; call++) {
      int fed = (call - 1) % 36 + 1;
      if (fed == 36) {
        C.due("3 call " + call, x.end(0), 0);
      } else {
        C.due("2 call " + call, x.feed(call, -call, call, -call, call), 20 * fed);
      }
    }
  }

  private static void faults() {
    NorthRoad x = Check.of(FULL);
    int call = callsToRead();
    Check.put(x, "road places 1");
    for (call += 3; call + 2 <= CALLS; call += 2) {
      C.due("4 call " + call, x.road(), -4);
      C.due("4 all stays, call " + call, x.loads(24), 9);
    }
  }

  /** By one RIDER a CAR would go, if he stood there; nobody but CAR 0 has one who does. */
  private static void questions() {
    NorthRoad x = Check.of(FULL);
    x.row(0, 0, 0);
    for (int call = callsToRead() + 2; call + 8 <= CALLS; call += 8) {
      C.due("36 call " + call, x.best(), 9);
      C.due("38 call " + call, x.ways(), 4096 - 729);
      C.due("39 call " + call, x.cover(), 1);
      C.due("46 call " + call, x.share(5, 0), 3);
      C.due("46 call " + call, x.share(5, 1), 2);
      C.due("49 call " + call, x.house(0, 0), 21);
      C.due("52 call " + call, x.ask(0, 0), -1);
      C.due("60 call " + call, x.chance(0, 0), 63);
    }
  }

  private static void acts() {
    NorthRoad x = Check.of(FULL);
    for (int call = callsToRead(); call + 42 <= CALLS; call += 42) {
      for (int act = 0; act < 40; act++) {
        C.due("63 call " + call, x.bar(act % 3, act % 6, 1), act < 6 ? 0 : 1);
      }
      C.due("63 the 41st, call " + call, x.bar(0, 0, 0), -5);
      C.due("66 call " + call, x.anew(), 40);
    }
    C.due("66 nobody is barred", x.aboard(0, 0), 15);
  }

  private static void undone() {
    NorthRoad x = Check.of(FULL);
    for (int call = callsToRead(); call + 3 <= CALLS; call += 3) {
      C.due("64 call " + call, x.tell(0, 0), 9);
      C.due("9 call " + call, x.aboard(0, 0), 30);
      C.due("65 call " + call, x.undo(), 0);
    }
    C.due("65 as told", x.aboard(0, 0), 15);
  }

  private static void images() {
    NorthRoad x = Check.of(FULL);
    for (int call = callsToRead(); call + 4 <= CALLS; call += 4) {
      C.due("71 call " + call, x.image(call % 3), 0);
      C.due("69 call " + call, x.rate(0, 1), 9);
      C.due("72 call " + call, x.back(call % 3), 0);
      C.due("23 call " + call, x.loads(24), 9);
    }
  }

  private static void rows() {
    NorthRoad x = Check.of(FULL);
    for (int call = callsToRead(); call + 6 <= CALLS; call += 6) {
      C.due("73 call " + call, x.row(call % 4, 3, 60), 0);
      C.due("74 call " + call, x.write(call % 4, 0, 9), 0);
      C.due("73 call " + call, x.row((call + 1) % 4, 3, 6), 0);
      C.due("75 call " + call, x.paste(call % 4, 0, (call + 1) % 4, 0, 6), 0);
      C.due("48 the others would leave, call " + call, x.leave((call + 1) % 4), 2);
      C.due("47 call " + call, x.fair((call + 1) % 4), 0);
    }
  }
}
