/**
 * Terms III and IV and promises 36 to 48: no row and all 4,096, nobody and all six, the least of
 * several, worth above and below 0, and shares of which some are as great as numbers can be.
 */
public final class SetEdgeTest {
  private static final Check C = new Check();
  private static final long LEAST = Long.MIN_VALUE;
  private static final long GREATEST = Long.MAX_VALUE;
  private static final String CAR = "car from 0 to 1 load 99;";
  private static final String WHO = "rider at 0 says 1 home 9;";

  /** Each RIDER takes the CAR one PLACE further to his home: it arrives by all six alone. */
  private static final String CHAIN = "road places 7 law 1 seats 1 odds 5;car from 0 to 6 load 99;"
      + "rider at 0 says 1 home 1;rider at 1 says 2 home 2;rider at 2 says 3 home 3;rider at 3 says 4 home 4;"
      + "rider at 4 says 5 home 5;rider at 5 says 6 home 6;";

  /** RIDER 0 goes through in three CARS, one behind the other. */
  private static final String THROUGH = "road places 5 law 1 seats 1 odds 0;car from 1 to 2 load 99;"
      + "car from 2 to 3 load 99;car from 3 to 4 load 99;";

  public static void main(String[] args) {
    rowsNone();
    rowsAll();
    rowsBetter();
    rowsAndActs();
    chain();
    covers();
    pairs();
    leastLoads();
    worths();
    stands();
    signsSooner();
    signsGreater();
    shares();
    fairRefused();
    fairSums();
    fairNobody();
    fairLongs();
    leaveLeast();
    C.close();
  }

  private static void rowsNone() {
    NorthRoad bare = Check.of("road places 2 law 3 seats 1 odds 0;");
    C.due("36 without CARS and RIDERS", bare.best(), 0);
    C.due("38 the one row without RIDERS", bare.ways(), 1);
    C.due("37 no RIDER", bare.plan(0), -2);
    NorthRoad cars = Check.of("road places 2 law 3 seats 1 odds 0;" + CAR + CAR + CAR);
    C.due("36 without RIDERS", cars.best(), 297);
    C.due("38 without RIDERS", cars.ways(), 1);
    NorthRoad riders = Check.of("road places 2 law 3 seats 1 odds 0;" + WHO.repeat(6));
    C.due("36 without CARS", riders.best(), 0);
    C.due("38 without CARS all have none", riders.ways(), 1);
    for (int rider = 0; rider < 6; rider++) {
      C.due("37 none", riders.plan(rider), -1);
    }
    C.due("37 no RIDER 6", riders.plan(6), -2);
  }

  private static void rowsAll() {
    NorthRoad deaf = Check.of("road places 2 law 1 seats 4 odds 0;" + CAR.repeat(3) + "rider at 0 says 0 home 9;".repeat(6));
    C.due("36 nobody is taken", deaf.best(), 0);
    C.due("38 all rows do: 4 to the 6th", deaf.ways(), 4096);
    C.due("37 none first", deaf.plan(5), -1);
    NorthRoad all = Check.of("road places 2 law 1 seats 1 odds 0;" + CAR.repeat(3) + WHO.repeat(6));
    C.due("36 three times 99", all.best(), 297);
    C.due("38 those in which each CAR has one: 4096 - 3 * 729 + 3 * 64 - 1", all.ways(), 2100);
    int[] plan = {-1, -1, -1, 0, 1, 2};
    for (int rider = 0; rider < 6; rider++) {
      C.due("37 the least row, RIDER " + rider, all.plan(rider), plan[rider]);
    }
    NorthRoad home = Check.of("road places 2 law 1 seats 1 odds 0;" + CAR.repeat(3) + "rider at 0 says 9 home 0;".repeat(6));
    C.due("38 nobody needs a CAR", home.ways(), 4096);
  }

  private static void rowsBetter() {
    NorthRoad x = Check.of("road places 3 law 1 seats 1 odds 0;car from 0 to 2 load 10;rider at 0 says 1 home 1;"
        + "rider at 0 says 1 home 9;");
    C.due("23 now it stays at 1", x.loads(24), 0);
    C.due("36 better", x.best(), 10);
    C.due("37 none", x.plan(0), -1);
    C.due("37 CAR 0", x.plan(1), 0);
    C.due("38 one row", x.ways(), 1);
    C.due("23 it is as it was", x.loads(24), 0);
    NorthRoad y = Check.of(THROUGH + "rider at 1 says 9 home 9;");
    C.due("23 through three CARS", y.loads(24), 297);
    C.due("36 by a row he has one CAR alone", y.best(), 99);
    C.due("37 CAR 0", y.plan(0), 0);
    C.due("38 one row", y.ways(), 1);
    NorthRoad z = Check.of("road places 3 law 1 seats 1 odds 0;car from 0 to 1 load 5;car from 0 to 1 load 5;"
        + "rider at 0 says 1 home 9;");
    C.due("37 the lesser CAR of two", z.plan(0), 0);
    C.due("38 both", z.ways(), 2);
  }

  private static void rowsAndActs() {
    NorthRoad x = Check.of(CHAIN);
    for (int rider = 0; rider < 6; rider++) {
      x.bar(0, rider, 1);
    }
    C.due("23 all are barred", x.loads(24), 0);
    C.due("III bars of acts aside", x.best(), 99);
    C.due("III bars of acts aside", x.plan(5), 0);
    C.due("III bars of acts aside", x.ways(), 1);
    C.due("23 they are barred still", x.loads(24), 0);
    x.tell(3, 3);
    C.due("III but signs as told", x.best(), 0);
    C.due("III but signs as told", x.plan(5), -1);
    C.due("III but signs as told", x.ways(), 64);
  }

  private static void chain() {
    NorthRoad x = Check.of(CHAIN);
    C.due("23 it arrives", x.loads(24), 99);
    C.due("11 at STEP 6", x.arrives(0), 6);
    C.due("39 all six", x.cover(), 63);
    C.due("40 all six", x.needed(), 63);
    C.due("41 each is needed alone, no pair is", x.pair(), -1);
    C.due("36 best", x.best(), 99);
    C.due("38 all in CAR 0", x.ways(), 1);
    for (int rider = 0; rider < 6; rider++) {
      C.due("42 worth(" + rider + ")", x.worth(rider), 99);
      C.due("37 plan(" + rider + ")", x.plan(rider), 0);
      C.due("43 where he stands", x.stand(rider), rider);
      C.due("45 not greater than now", x.signs(rider), -1);
      C.due("44 not sooner than now", x.sign(rider), -1);
      C.due("46 a sixth, above", x.share(rider, 0), 33);
      C.due("46 a sixth, below", x.share(rider, 1), 2);
    }
  }

  private static void covers() {
    String road = "road places 3 law 1 seats 4 odds 0;car from 0 to 2 load 7;";
    NorthRoad x = Check.of(road + "rider at 0 says 1 home 1;rider at 1 says 2 home 2;" + WHO);
    C.due("39 fewest ahead of least", x.cover(), 4);
    C.due("40 none alone", x.needed(), 0);
    C.due("41 RIDERS 0 and 2", x.pair(), 2);
    C.due("39 the least of six", Check.of(road + WHO.repeat(6)).cover(), 1);
    C.due("39 the last one", Check.of(road + "rider at 2 says 0 home 0;".repeat(5) + WHO).cover(), 32);
    C.due("39 nobody", Check.of(road).cover(), 0);
    C.due("39 nobody, where nothing comes through", Check.of(road + "rider at 0 says 1 home 1;").cover(), 0);
    C.due("39 nobody, where it goes by itself",
        Check.of("road places 2 law 3 seats 1 odds 0;" + CAR + WHO.repeat(6)).cover(), 0);
    NorthRoad more = Check.of("road places 4 law 1 seats 1 odds 0;car from 0 to 2 load 5;car from 2 to 3 load 7;"
        + "rider at 0 says 1 home 9;rider at 2 says 0 home 9;rider at 0 says 9 home 9;");
    C.due("39 what it is now", more.cover(), 1);
    C.due("42 more without him", more.worth(0), -7);
    C.due("40 nobody is needed by whom it is less", more.needed(), 0);
    NorthRoad only = Check.of("road places 4 law 1 seats 1 odds 0;car from 0 to 2 load 5;car from 2 to 3 load 7;"
        + "rider at 1 says 0 home 9;rider at 0 says 9 home 9;rider at 0 says 9 home 9;");
    only.bar(1, 1, 1);
    C.due("23 now 5", only.loads(24), 5);
    C.due("39 or more: RIDER 1 brings 5", only.cover(), 2);
    only.bar(0, 1, 1);
    C.due("23 now 12 by RIDER 2", only.loads(24), 12);
    C.due("39 RIDER 2", only.cover(), 4);
    C.due("40 RIDER 2", only.needed(), 4);
  }

  private static void pairs() {
    String road = "road places 3 law 1 seats 4 odds 0;car from 0 to 2 load 7;";
    String idle = "rider at 2 says 0 home 0;";
    C.due("41 0 and 1", Check.of(road + WHO + WHO).pair(), 1);
    C.due("41 4 and 5", Check.of(road + idle.repeat(4) + WHO + WHO).pair(), 45);
    C.due("41 0 and 5", Check.of(road + WHO + idle.repeat(4) + WHO).pair(), 5);
    C.due("41 1 and 4", Check.of(road + idle + WHO + idle + idle + WHO + idle).pair(), 14);
    C.due("41 of three none", Check.of(road + WHO + WHO + WHO).pair(), -1);
    C.due("41 of one none", Check.of(road + WHO).pair(), -1);
    C.due("41 of nobody none", Check.of(road).pair(), -1);
    String second = "car from 0 to 2 load 7;";
    C.due("41 less without one of them already", Check.of(road.replace("seats 4", "seats 1") + second + WHO + WHO).pair(), -1);
  }

  /** A load of 1 is less than nothing by 1, one of 0 is not less at all. */
  private static void leastLoads() {
    String road = "road places 3 law 1 seats 4 odds 0;car from 0 to 2 load 1;";
    C.due("40 less by 1", Check.of(road + WHO).needed(), 1);
    C.due("41 less by 1", Check.of(road + WHO + WHO).pair(), 1);
    C.due("42 by 1", Check.of(road + WHO).worth(0), 1);
    C.due("39 what it is now, not 1 less", Check.of(road + WHO).cover(), 1);
    String idle = "rider at 2 says 0 home 0;";
    C.due("41 less by 1 without the lesser one already", Check.of(road + WHO + idle).pair(), -1);
    C.due("41 less by 1 without the other one already", Check.of(road + idle + WHO).pair(), -1);
    NorthRoad none = Check.of(road.replace("load 1", "load 0") + WHO);
    C.due("40 a load of 0", none.needed(), 0);
    C.due("39 a load of 0", none.cover(), 0);
    C.due("41 a load of 0", Check.of(road.replace("load 1", "load 0") + WHO + WHO).pair(), -1);
    String each = "road places 3 law 1 seats 1 odds 0;car from 0 to 1 load 1;car from 0 to 1 load 9;";
    NorthRoad x = Check.of(each + WHO + WHO);
    C.due("42 the last CAR is empty without him", x.worth(0), 9);
    C.due("41 less without either", x.pair(), -1);
    String last = "road places 3 law 1 seats 1 odds 0;car from 0 to 1 load 9;car from 0 to 1 load 1;";
    C.due("41 less by 1 without either", Check.of(last + WHO + WHO).pair(), -1);
    C.due("40 less by 1 without either", Check.of(last + WHO + WHO).needed(), 3);
  }

  private static void worths() {
    NorthRoad x = Check.of(THROUGH + "rider at 1 says 9 home 9;");
    C.due("42 the most", x.worth(0), 297);
    C.due("42 no such", x.worth(1), -1000);
    NorthRoad y = Check.of(THROUGH + "rider at 1 says 2 home 0;rider at 1 says 9 home 9;");
    C.due("42 the least", y.worth(0), -297);
    C.due("42 nothing", y.worth(1), 0);
    C.due("40 who is not needed", y.needed(), 0);
    C.due("39 nothing comes through now", y.cover(), 0);
    C.due("46 half of what he takes", y.share(0, 0), -297);
    C.due("46 half of what he takes", y.share(0, 1), 2);
    C.due("46 half of what he brings", y.share(1, 0), 297);
    for (int rider : new int[] {2, 6, -1, Integer.MIN_VALUE, Integer.MAX_VALUE}) {
      C.due("42 no RIDER " + rider, y.worth(rider), -1000);
    }
  }

  private static void stands() {
    NorthRoad last = Check.of("road places 2 law 0 seats 1 odds 0;car from 0 to 1 load 9;rider at 0 says 1 home 1;"
        + "rider at 0 says 1 home 9;");
    C.due("23 he is in the way", last.loads(24), 0);
    C.due("43 places less 1", last.stand(0), 1);
    C.due("43 the least of several", last.stand(1), 0);
    C.due("23 he stands where he stood", last.loads(24), 0);
    NorthRoad mid = Check.of("road places 12 law 1 seats 1 odds 0;car from 10 to 11 load 9;rider at 0 says 99 home 99;");
    C.due("43 one PLACE alone", mid.stand(0), 10);
    C.due("43 says too little there", Check.of("road places 12 law 1 seats 1 odds 0;car from 10 to 11 load 9;"
        + "rider at 7 says 10 home 99;").stand(0), 0);
    C.due("43 without CARS", Check.of("road places 3 law 1 seats 1 odds 0;rider at 2 says 1 home 1;").stand(0), 0);
    NorthRoad barred = Check.of("road places 3 law 1 seats 1 odds 0;car from 0 to 1 load 1;car from 1 to 2 load 5;"
        + "rider at 0 says 9 home 9;");
    C.due("43 both", barred.stand(0), 0);
    barred.bar(0, 0, 1);
    C.due("43 as he is barred", barred.stand(0), 1);
    barred.bar(1, 0, 1);
    C.due("43 nowhere", barred.stand(0), 0);
  }

  private static void signsSooner() {
    NorthRoad x = Check.of("road places 12 law 1 seats 1 odds 0;car from 10 to 11 load 9;rider at 10 says 10 home 11;");
    C.due("44 the least that is more than 10", x.sign(0), 11);
    C.due("64 tell", x.tell(0, 11), 10);
    C.due("17 home", x.home(0), 1);
    C.due("44 not sooner than now", x.sign(0), -1);
    x.tell(0, 99);
    C.due("44 99 is as good", x.sign(0), -1);
    NorthRoad two = Check.of("road places 6 law 1 seats 1 odds 0;car from 0 to 2 load 5;car from 2 to 5 load 5;"
        + "rider at 0 says 1 home 4;rider at 1 says 0 home 1;rider at 5 says 0 home 99;");
    C.due("44 over two CARS", two.sign(0), 3);
    C.due("44 he says what he said", two.rider(0, 1), 1);
    C.due("44 home at STEP 0", two.sign(1), -1);
    C.due("44 never", two.sign(2), -1);
    two.bar(1, 0, 1);
    C.due("44 barred", two.sign(0), -1);
    C.due("44 without CARS", Check.of("road places 2 law 1 seats 1 odds 0;rider at 0 says 0 home 1;").sign(0), -1);
  }

  private static void signsGreater() {
    NorthRoad x = Check.of("road places 12 law 1 seats 1 odds 0;car from 10 to 11 load 9;rider at 10 says 10 home 11;");
    C.due("45 the least that is more than 10", x.signs(0), 11);
    x.tell(0, 20);
    C.due("45 not greater than now", x.signs(0), -1);
    NorthRoad way = Check.of("road places 2 law 0 seats 1 odds 0;car from 0 to 1 load 9;rider at 0 says 1 home 1;"
        + "rider at 0 says 1 home 9;");
    C.due("45 0: he is out of the way", way.signs(0), 0);
    C.due("45 the other can't help", way.signs(1), -1);
    NorthRoad zero = Check.of("road places 12 law 1 seats 1 odds 0;car from 10 to 11 load 0;rider at 10 says 10 home 11;");
    C.due("45 a load of 0 is not greater", zero.signs(0), -1);
    C.due("44 though he is home sooner", zero.sign(0), 11);
  }

  private static void shares() {
    NorthRoad x = Check.of("road places 2 law 1 seats 4 odds 0;car from 0 to 1 load 1;" + WHO.repeat(6));
    C.due("46 1 of 6", x.share(5, 0), 1);
    C.due("46 1 of 6", x.share(5, 1), 6);
    NorthRoad mixed = Check.of("road places 3 law 1 seats 4 odds 0;car from 0 to 2 load 12;rider at 0 says 1 home 1;"
        + "rider at 1 says 2 home 2;" + WHO);
    // sets that bring 12: those with RIDER 2, and that of 0 and 1
    C.due("46 2 above", mixed.share(0, 0), 2);
    C.due("46 1 below", mixed.share(0, 1), 1);
    C.due("46 2 above", mixed.share(1, 0), 2);
    C.due("46 8 above", mixed.share(2, 0), 8);
    C.due("46 1 below", mixed.share(2, 1), 1);
    NorthRoad none = Check.of("road places 2 law 3 seats 4 odds 0;car from 0 to 1 load 9;rider at 1 says 1 home 9;");
    C.due("46 nothing more by him: 0", none.share(0, 0), 0);
    C.due("46 of 1", none.share(0, 1), 1);
    C.due("46 all of it", Check.of("road places 2 law 1 seats 1 odds 0;" + CAR + WHO).share(0, 0), 99);
  }

  private static void fairRefused() {
    NorthRoad x = new NorthRoad();
    x.row(0, 0, 0);
    for (int slot : new int[] {-1, 0, 1, 3, 4}) {
      C.due("47 no ROAD, SLOT " + slot, x.fair(slot), -2);
      C.due("48 no ROAD, SLOT " + slot, x.leave(slot), -2);
    }
    Check.read(x, CHAIN);
    for (int slot : new int[] {-1, 4, Integer.MIN_VALUE, Integer.MAX_VALUE}) {
      C.due("47 no SLOT " + slot, x.fair(slot), -2);
      C.due("48 no SLOT " + slot, x.leave(slot), -2);
    }
    for (int slot = 1; slot < 4; slot++) {
      C.due("47 it has nothing", x.fair(slot), -6);
      C.due("48 it has nothing", x.leave(slot), -6);
    }
    for (int n : new int[] {0, 1, 5, 7, 12, 60}) {
      x.row(0, 3, n);
      C.due("47 not as many numbers as RIDERS: " + n, x.fair(0), -2);
      C.due("48 not as many numbers as RIDERS: " + n, x.leave(0), -2);
    }
    for (int width = 0; width < 4; width++) {
      x.row(3, width, 6);
      C.due("47 as many", x.fair(3), 0);
      C.due("48 as many", x.leave(3), 63);
    }
  }

  private static void fairSums() {
    NorthRoad x = Check.of(CHAIN);
    C.fill(x, 0, 0, 16, 16, 16, 17, 17, 17);
    C.due("47 together 99", x.fair(0), 1);
    C.due("48 none leaves", x.leave(0), -1);
    C.fill(x, 1, 1, 16, 16, 16, 17, 17, 16);
    C.due("47 together 98", x.fair(1), 0);
    C.due("48 all leave", x.leave(1), 63);
    C.fill(x, 2, 2, 16, 16, 17, 17, 17, 17);
    C.due("47 together 100", x.fair(2), 0);
    C.due("48 none leaves", x.leave(2), -1);
    C.fill(x, 3, 3, 0, 0, 0, 0, 0, 99);
    C.due("47 all to one", x.fair(3), 1);
    C.fill(x, 3, 3, 100, 0, 0, 0, 0, -1);
    C.due("47 one below 0", x.fair(3), 0);
    C.due("48 he leaves", x.leave(3), 32);
  }

  private static void fairNobody() {
    NorthRoad bare = Check.of("road places 2 law 3 seats 1 odds 0;");
    C.due("47 it has nothing, without RIDERS too", bare.fair(0), -6);
    bare.row(0, 2, 0);
    C.due("47 nothing is what nobody brings", bare.fair(0), 1);
    C.due("48 nobody ever would", bare.leave(0), -1);
    NorthRoad goes = Check.of("road places 2 law 3 seats 1 odds 0;" + CAR);
    goes.row(0, 2, 0);
    C.due("47 nothing is not the 99 that come by themselves", goes.fair(0), 0);
    C.due("48 nobody ever would", goes.leave(0), -1);
    goes.row(0, 2, 1);
    C.due("47 one number, no RIDER", goes.fair(0), -2);
    NorthRoad one = Check.of("road places 2 law 3 seats 1 odds 0;" + CAR + "rider at 1 says 0 home 0;");
    C.fill(one, 0, 1, 99);
    C.due("47 he brings 99 as nobody does", one.fair(0), 1);
    C.fill(one, 0, 1, 98);
    C.due("48 he leaves", one.leave(0), 1);
  }

  private static void fairLongs() {
    NorthRoad x = Check.of(CHAIN);
    C.fill(x, 0, 3, GREATEST, GREATEST, GREATEST, GREATEST, GREATEST, GREATEST);
    C.due("48 together more than a long holds", x.leave(0), -1);
    C.due("47 together more than a long holds", x.fair(0), 0);
    C.fill(x, 0, 3, GREATEST, GREATEST, LEAST, 0, 0, 0);
    C.due("48 the one who is given the least", x.leave(0), 4);
    C.fill(x, 0, 3, LEAST, LEAST, LEAST, LEAST, LEAST, LEAST);
    C.due("48 the first", x.leave(0), 1);
    C.fill(x, 0, 3, 1L << 62, 1L << 62, 1L << 62, 1L << 62, 0, 0);
    C.due("48 together 2 to the 64th is not 0", x.leave(0), -1);
    C.fill(x, 0, 3, GREATEST, GREATEST, 101, 0, 0, 0);
    C.due("47 together 2 to the 64th and 99 is not 99", x.fair(0), 0);
    C.due("48 together 2 to the 64th and 99", x.leave(0), -1);
    C.fill(x, 0, 3, 4294967295L, 4294967295L, 101, 0, 0, 0);
    C.due("47 together 2 to the 33rd and 99 is not 99", x.fair(0), 0);
    C.due("48 together 2 to the 33rd and 99", x.leave(0), -1);
    C.fill(x, 0, 2, Integer.MAX_VALUE, Integer.MAX_VALUE, 101, 0, 0, 0);
    C.due("47 together 2 to the 32nd and 99 is not 99", x.fair(0), 0);
    C.due("48 together 2 to the 32nd and 99", x.leave(0), -1);
    C.fill(x, 0, 0, 127, 127, 127, 127, 127, 127);
    C.due("48 together more than a byte holds", x.leave(0), -1);
  }

  private static void leaveLeast() {
    NorthRoad x = Check.of("road places 3 law 1 seats 4 odds 0;car from 0 to 2 load 12;rider at 0 says 1 home 1;"
        + "rider at 1 says 2 home 2;" + WHO);
    C.fill(x, 0, 0, 0, 0, 12);
    C.due("48 RIDERS 0 and 1 bring as much", x.leave(0), 3);
    C.fill(x, 0, 0, 6, 6, 11);
    C.due("48 RIDER 2 alone", x.leave(0), 4);
    C.fill(x, 0, 0, 6, 5, 11);
    C.due("48 the least of two", x.leave(0), 3);
    C.fill(x, 0, 0, 6, 6, 12);
    C.due("48 none", x.leave(0), -1);
    C.due("47 but it is more than all bring", x.fair(0), 0);
    C.fill(x, 0, 0, -1, 13, 12);
    C.due("48 who is given less than nothing", x.leave(0), 1);
  }
}
