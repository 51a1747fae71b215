/**
 * Term II and promises 8 to 35: days worked out by hand, STEP by STEP, whose CARS go to the last
 * PLACE, stay from STEP 0 to 24, stand and go on, are full, or have nobody in them.
 */
public final class StepEdgeTest {
  private static final Check C = new Check();

  /** It goes through all twelve PLACES; RIDER 0 waits at the last one from STEP 11 on. */
  private static final String LONG = "road places 12 law 1 seats 4 odds 0;car from 0 to 11 load 99;"
      + "rider at 0 says 1 home 99;";

  /** RIDER 0 sits in a CAR that never goes: his home is not further than where it goes to. */
  private static final String STILL = "road places 2 law 0 seats 1 odds 0;car from 0 to 1 load 5;"
      + "rider at 0 says 1 home 1;";

  /**
   * CAR 1 brings RIDER 0 home to 4 at STEP 1, and stays; CAR 0 brings RIDER 1 there at STEP 2, he goes
   * on in it to 5, where it stays at STEPS 3 and 4; CAR 2 brings RIDER 2 there at STEP 5, it arrives at 7.
   */
  private static final String STAGES = "road places 8 law 1 seats 2 odds 0;car from 2 to 4 load 1;"
      + "car from 3 to 7 load 20;car from 0 to 5 load 5;rider at 3 says 4 home 4;rider at 2 says 9 home 5;"
      + "rider at 0 says 9 home 9;";

  public static void main(String[] args) {
    longDay();
    stillDay();
    stagesCars();
    stagesRiders();
    stagesSteps();
    nobody();
    seats();
    signs();
    gettingOut();
    lawZero();
    lawOne();
    lawTwo();
    lawThree();
    halts();
    crowds();
    leads();
    meetings();
    misses();
    C.close();
  }

  private static void row(String call, int[] got, int[] want) {
    for (int k = 0; k < want.length; k++) {
      C.due(call + ", number " + k, got[k], want[k]);
    }
  }

  private static void longDay() {
    NorthRoad x = Check.of(LONG);
    for (int step = 0; step <= 24; step++) {
      boolean goes = step < 11;
      C.due("8 at(0, " + step + ")", x.at(0, step), Math.min(step, 11));
      C.due("9 aboard(0, " + step + ")", x.aboard(0, step), goes ? 1 : 0);
      C.due("10 runs(0, " + step + ")", x.runs(0, step), goes ? 1 : 0);
      C.due("15 within(0, " + step + ")", x.within(0, step), goes ? 0 : -1);
      C.due("16 place(0, " + step + ")", x.place(0, step), Math.min(step, 11));
      C.due("21 waiting(11, " + step + ")", x.waiting(11, step), goes ? 0 : 1);
      C.due("22 done(" + step + ")", x.done(step), goes ? 0 : 1);
      C.due("23 loads(" + step + ")", x.loads(step), goes ? 0 : 99);
      C.due("24 homes(" + step + ")", x.homes(step), 0);
      C.due("27 crowd(" + step + ")", x.crowd(step), goes ? -1 : 11);
      C.due("30 empty(" + step + ")", x.empty(step), goes ? 0 : 1);
      C.due("31 further(0, " + step + ")", x.further(0, step), goes ? 1 : 0);
      C.due("32 idle(" + step + ")", x.idle(step), 0);
      C.due("34 lead(" + step + ")", x.lead(step), 0);
    }
    C.due("11 the last PLACE", x.arrives(0), 11);
    C.due("12 arrived, it does not stand", x.stands(0), 0);
    C.due("13 nor is it stuck", x.stuck(0), 0);
    C.due("14 fullest", x.fullest(0), 1);
    C.due("17 a home beyond all PLACES", x.home(0), -1);
    C.due("18 cars", x.cars(0), 1);
    C.due("19 rides", x.rides(0), 11);
    C.due("20 waits from STEP 11 to 24", x.waits(0), 14);
    C.due("25 an arrived CAR does not halt", x.halt(), -1);
    C.due("26 nor is halted", x.halted(), -1);
    C.due("29 alone from STEP 11 to 24", x.alone(0), 14);
    C.due("33 ends", x.ends(), 11);
    C.due("35 no CAR beside but the arrived one", x.missed(0), 0);
  }

  private static void stillDay() {
    NorthRoad x = Check.of(STILL);
    for (int step = 0; step <= 24; step++) {
      C.due("8 at(0, " + step + ")", x.at(0, step), 0);
      C.due("9 aboard(0, " + step + ")", x.aboard(0, step), 1);
      C.due("10 runs(0, " + step + ")", x.runs(0, step), 0);
      C.due("15 within(0, " + step + ")", x.within(0, step), 0);
      C.due("16 place(0, " + step + ")", x.place(0, step), 0);
      C.due("21 who is in a CAR does not wait", x.waiting(0, step), 0);
      C.due("22 done(" + step + ")", x.done(step), 0);
      C.due("23 loads(" + step + ")", x.loads(step), 0);
      C.due("27 crowd(" + step + ")", x.crowd(step), -1);
      C.due("30 empty(" + step + ")", x.empty(step), 0);
      C.due("31 further, though by LAW 0 it stays", x.further(0, step), 1);
      C.due("32 idle(" + step + ")", x.idle(step), 1);
    }
    C.due("11 at none", x.arrives(0), -1);
    C.due("12 at all 25 STEPS", x.stands(0), 25);
    C.due("13 at all 25 STEPS", x.stuck(0), 25);
    C.due("14 fullest", x.fullest(0), 1);
    C.due("17 at none", x.home(0), -1);
    C.due("18 a CAR that never goes", x.cars(0), 1);
    C.due("19 no further", x.rides(0), 0);
    C.due("20 at no STEP", x.waits(0), 0);
    C.due("25 it never went", x.halt(), -1);
    C.due("26 it never went", x.halted(), -1);
    C.due("28 at STEP 0", x.meets(0, 0), 0);
    C.due("29 at no STEP", x.alone(0), 0);
    C.due("33 at none", x.ends(), -1);
    C.due("35 in it he does not miss it", x.missed(0), 0);
  }

  private static void stagesCars() {
    NorthRoad x = Check.of(STAGES);
    int[][] at = {{2, 3, 4, 4, 4, 4, 4, 4, 4}, {3, 4, 4, 5, 5, 5, 6, 7, 7}, {0, 1, 2, 3, 4, 5, 5, 5, 5}};
    int[][] aboard = {{2, 2, 0, 0, 0, 0, 0, 0, 0}, {1, 0, 2, 0, 0, 4, 4, 0, 0}, {4, 4, 4, 4, 4, 0, 0, 0, 0}};
    int[][] runs = {{1, 1, 0, 0, 0, 0, 0, 0, 0}, {1, 0, 1, 0, 0, 1, 1, 0, 0}, {1, 1, 1, 1, 1, 0, 0, 0, 0}};
    for (int car = 0; car < 3; car++) {
      int[][] got = new int[4][9];
      for (int step = 0; step < 9; step++) {
        got[0][step] = x.at(car, step);
        got[1][step] = x.aboard(car, step);
        got[2][step] = x.runs(car, step);
        got[3][step] = x.further(car, step);
      }
      row("8 at CAR " + car, got[0], at[car]);
      row("9 aboard CAR " + car, got[1], aboard[car]);
      row("10 runs CAR " + car, got[2], runs[car]);
      row("31 further CAR " + car, got[3], aboard[car]);
      C.due("8 as at STEP 24", x.at(car, 24), at[car][8]);
    }
    row("11 arrives", new int[] {x.arrives(0), x.arrives(1), x.arrives(2)}, new int[] {2, 7, 5});
    row("12 stands at STEPS 1, 3, 4", new int[] {x.stands(0), x.stands(1), x.stands(2)}, new int[] {0, 3, 0});
    row("13 stuck at STEPS 3, 4", new int[] {x.stuck(0), x.stuck(1), x.stuck(2)}, new int[] {0, 2, 0});
    row("14 fullest", new int[] {x.fullest(0), x.fullest(1), x.fullest(2)}, new int[] {1, 1, 1});
    row("29 alone", new int[] {x.alone(0), x.alone(1), x.alone(2)}, new int[] {23, 21, 20});
  }

  private static void stagesRiders() {
    NorthRoad x = Check.of(STAGES);
    int[][] within = {{1, -1, -1, -1, -1, -1, -1, -1, -1}, {0, 0, 1, -1, -1, -1, -1, -1, -1},
      {2, 2, 2, 2, 2, 1, 1, -1, -1}};
    int[][] place = {{3, 4, 4, 4, 4, 4, 4, 4, 4}, {2, 3, 4, 5, 5, 5, 5, 5, 5}, {0, 1, 2, 3, 4, 5, 6, 7, 7}};
    for (int rider = 0; rider < 3; rider++) {
      int[][] got = new int[2][9];
      for (int step = 0; step < 9; step++) {
        got[0][step] = x.within(rider, step);
        got[1][step] = x.place(rider, step);
      }
      row("15 within RIDER " + rider, got[0], within[rider]);
      row("16 place RIDER " + rider, got[1], place[rider]);
      C.due("16 as at STEP 24", x.place(rider, 24), place[rider][8]);
    }
    row("17 home", new int[] {x.home(0), x.home(1), x.home(2)}, new int[] {1, 3, -1});
    row("18 cars", new int[] {x.cars(0), x.cars(1), x.cars(2)}, new int[] {2, 3, 6});
    row("19 rides", new int[] {x.rides(0), x.rides(1), x.rides(2)}, new int[] {1, 3, 7});
    row("20 waits", new int[] {x.waits(0), x.waits(1), x.waits(2)}, new int[] {0, 0, 18});
    row("28 meets", new int[] {x.meets(0, 1), x.meets(1, 2), x.meets(2, 2)}, new int[] {-1, -1, 0});
    row("35 missed", new int[] {x.missed(0), x.missed(1), x.missed(2)}, new int[] {0, 0, 0});
  }

  private static void stagesSteps() {
    NorthRoad x = Check.of(STAGES);
    int[][] due = {{0, 0, 1, 1, 1, 5, 5, 7, 7}, {0, 0, 1, 1, 1, 6, 6, 26, 26}, {0, 1, 1, 3, 3, 3, 3, 3, 3},
      {-1, -1, -1, -1, -1, -1, -1, 7, 7}, {0, 2, 1, 3, 3, 5, 5, 7, 7}, {0, 2, 0, 2, 2, 0, 0, 0, 0},
      {1, 1, 0, 1, 1, 1, 1, 1, 1}};
    int[][] got = new int[7][9];
    for (int step = 0; step < 9; step++) {
      got[0][step] = x.done(step);
      got[1][step] = x.loads(step);
      got[2][step] = x.homes(step);
      got[3][step] = x.crowd(step);
      got[4][step] = x.empty(step);
      got[5][step] = x.idle(step);
      got[6][step] = x.lead(step);
    }
    String[] calls = {"22 done", "23 loads", "24 homes", "27 crowd", "30 empty", "32 idle", "34 lead"};
    for (int k = 0; k < 7; k++) {
      row(calls[k], got[k], due[k]);
    }
    C.due("21 who gets out and in again does not wait", x.waiting(4, 2), 0);
    C.due("21 who is home does not wait", x.waiting(4, 1), 0);
    C.due("21 at the last PLACE", x.waiting(7, 7), 4);
    C.due("25 at STEP 1, the first of two", x.halt(), 1);
    C.due("26 CAR 1", x.halted(), 1);
    C.due("33 when the last has arrived", x.ends(), 7);
  }

  private static void nobody() {
    NorthRoad road = Check.of("road places 2 law 1 seats 1 odds 0;");
    C.due("33 without CARS", road.ends(), 0);
    for (int step : new int[] {0, 24}) {
      C.due("22 no CAR is done", road.done(step), 0);
      C.due("23 no loads", road.loads(step), 0);
      C.due("24 nobody is home", road.homes(step), 0);
      C.due("27 nobody waits", road.crowd(step), -1);
      C.due("30 no CAR is empty", road.empty(step), 0);
      C.due("32 no CAR is idle", road.idle(step), 0);
      C.due("34 no CAR leads", road.lead(step), -1);
      C.due("21 nobody waits", road.waiting(1, step), 0);
    }
    C.due("25 no CAR halts", road.halt(), -1);
    C.due("26 no CAR is halted", road.halted(), -1);
    NorthRoad car = Check.of("road places 2 law 1 seats 1 odds 0;car from 0 to 1 load 7;");
    C.due("14 nobody in it", car.fullest(0), 0);
    C.due("29 alone at all STEPS", car.alone(0), 25);
    C.due("12 stands at all STEPS", car.stands(0), 25);
    C.due("30 empty", car.empty(24), 1);
    C.due("33 at none", car.ends(), -1);
    NorthRoad rider = Check.of("road places 2 law 1 seats 1 odds 0;rider at 0 says 99 home 1;");
    C.due("20 waits at all STEPS", rider.waits(0), 25);
    C.due("21 waits", rider.waiting(0, 24), 1);
    C.due("18 in no CAR", rider.cars(0), 0);
    C.due("15 in none", rider.within(0, 24), -1);
    C.due("17 not home", rider.home(0), -1);
    C.due("28 in none", rider.meets(0, 0), -1);
    C.due("35 no CAR", rider.missed(0), 0);
  }

  /** Six at one PLACE: CARS by numbers take RIDERS by numbers, while they have less than seats. */
  private static void seats() {
    int[][] aboard = {{1, 2, 4}, {3, 12, 48}, {7, 56, 0}, {15, 48, 0}};
    int[][] fullest = {{1, 1, 1}, {2, 2, 2}, {3, 3, 0}, {4, 2, 0}};
    for (int seats = 1; seats <= 4; seats++) {
      StringBuilder text = new StringBuilder("road places 4 law 1 seats " + seats + " odds 0;");
      text.append("car from 0 to 3 load 1;car from 0 to 3 load 2;car from 0 to 3 load 4;");
      for (int k = 0; k < 6; k++) {
        text.append("rider at 0 says 1 home 3;");
      }
      NorthRoad x = Check.of(text.toString());
      for (int car = 0; car < 3; car++) {
        C.due("9 aboard, seats " + seats, x.aboard(car, 0), aboard[seats - 1][car]);
        C.due("14 fullest, seats " + seats, x.fullest(car), fullest[seats - 1][car]);
      }
      C.due("23 loads, seats " + seats, x.loads(24), seats < 3 ? 7 : 3);
      C.due("21 who is left, seats " + seats, x.waiting(0, 0), seats == 1 ? 56 : 0);
    }
    NorthRoad out = Check.of("road places 4 law 1 seats 1 odds 0;car from 0 to 3 load 1;rider at 0 says 1 home 1;"
        + "rider at 1 says 2 home 9;rider at 1 says 2 home 9;");
    C.due("II a seat is free when one is home", out.aboard(0, 1), 2);
    C.due("II one seat for two", out.waiting(1, 1), 4);
    C.due("35 he misses it once", out.missed(2), 1);
    C.due("14 one at a time", out.fullest(0), 1);
  }

  /** Who says more than where the CAR is, not who says as much. */
  private static void signs() {
    for (int place = 0; place <= 10; place++) {
      String ahead = "road places 12 law 1 seats 1 odds 0;car from " + place + " to 11 load 1;rider at " + place;
      C.due("II says as much", Check.of(ahead + " says " + place + " home 99;").aboard(0, 0), 0);
      C.due("II says more", Check.of(ahead + " says " + (place + 1) + " home 99;").aboard(0, 0), 1);
      C.due("II says 0", Check.of(ahead + " says 0 home 99;").aboard(0, 0), 0);
      C.due("II says 99", Check.of(ahead + " says 99 home 99;").aboard(0, 0), 1);
    }
    NorthRoad x = Check.of("road places 4 law 1 seats 1 odds 0;car from 0 to 3 load 1;rider at 0 says 0 home 99;"
        + "rider at 0 says 1 home 99;");
    C.due("II who says too little is passed over", x.aboard(0, 0), 2);
    C.due("35 and misses it", x.missed(0), 1);
  }

  private static void gettingOut() {
    NorthRoad there = Check.of("road places 3 law 1 seats 1 odds 0;car from 0 to 2 load 1;rider at 0 says 9 home 0;");
    C.due("II home at STEP 0, in no CAR", there.home(0), 0);
    C.due("II he is not taken", there.aboard(0, 0), 0);
    C.due("20 he does not wait", there.waits(0), 0);
    C.due("24 homes(0)", there.homes(0), 1);
    C.due("19 no PLACE further", there.rides(0), 0);
    C.due("18 no CAR", there.cars(0), 0);
    NorthRoad goal = Check.of("road places 3 law 1 seats 1 odds 0;car from 0 to 2 load 1;rider at 0 says 9 home 2;"
        + "rider at 2 says 9 home 0;");
    C.due("II home where it arrives", goal.home(0), 2);
    C.due("II and he does not wait there", goal.waiting(2, 2), 2);
    C.due("II an arrived CAR takes nobody", goal.aboard(0, 2), 0);
    C.due("II nor later", goal.aboard(0, 24), 0);
    C.due("35 an arrived CAR is not missed", goal.missed(1), 0);
    C.due("11 arrives", goal.arrives(0), 2);
    NorthRoad pass = Check.of("road places 4 law 1 seats 2 odds 0;car from 0 to 3 load 1;rider at 0 says 1 home 2;"
        + "rider at 0 says 1 home 3;");
    C.due("II home on the way, there for good", pass.place(0, 24), 2);
    C.due("II the other goes on", pass.place(1, 24), 3);
    C.due("24 homes", pass.homes(2), 1);
    C.due("24 homes", pass.homes(3), 3);
    NorthRoad behind = Check.of("road places 4 law 1 seats 2 odds 0;car from 1 to 3 load 1;rider at 1 says 2 home 0;");
    C.due("II a home behind him does not drive", behind.at(0, 24), 1);
    C.due("II but he sits in it", behind.aboard(0, 24), 1);
    C.due("31 not further", behind.further(0, 0), 0);
  }

  private static int spotOf(int law, int from, int to, String riders) {
    String text = "road places 12 law " + law + " seats 4 odds 0;car from " + from + " to " + to + " load 1;" + riders;
    return Check.of(text).at(0, 24);
  }

  private static String riders(int many, int place, int home) {
    return ("rider at " + place + " says " + (place + 1) + " home " + home + ";").repeat(many);
  }

  private static void lawZero() {
    C.due("LAW 0: home is where it goes to", spotOf(0, 0, 3, riders(1, 0, 3)), 0);
    C.due("LAW 0: home is one further", spotOf(0, 0, 3, riders(1, 0, 4)), 3);
    C.due("LAW 0: home is on the way", spotOf(0, 0, 3, riders(1, 0, 2)), 0);
    C.due("LAW 0: one of several", spotOf(0, 0, 3, riders(3, 0, 3) + riders(1, 0, 4)), 3);
    C.due("LAW 0: beyond all PLACES", spotOf(0, 0, 11, riders(1, 0, 12)), 11);
    C.due("LAW 0: the last PLACE", spotOf(0, 0, 11, riders(1, 0, 11)), 0);
    C.due("LAW 0: nobody", spotOf(0, 0, 3, ""), 0);
  }

  private static void lawOne() {
    for (int home = 1; home <= 12; home++) {
      C.due("LAW 1: to his home " + home, spotOf(1, 0, 11, riders(1, 0, home)), Math.min(home, 11));
    }
    C.due("LAW 1: where it is", spotOf(1, 3, 11, riders(1, 3, 3)), 3);
    C.due("LAW 1: behind", spotOf(1, 3, 11, riders(1, 3, 2)), 3);
    C.due("LAW 1: one of four", spotOf(1, 3, 5, riders(3, 3, 2) + riders(1, 3, 4)), 4);
    C.due("LAW 1: nobody", spotOf(1, 2, 3, ""), 2);
  }

  private static void lawTwo() {
    for (int further = 0; further <= 4; further++) {
      for (int other = 0; further + other <= 4; other++) {
        int spot = spotOf(2, 1, 3, riders(further, 1, 9) + riders(other, 1, 0));
        C.due("LAW 2: " + further + " go further, " + other + " do not", spot, further > other ? 3 : 1);
      }
    }
  }

  private static void lawThree() {
    for (int place = 0; place <= 10; place++) {
      C.due("LAW 3: nobody, at " + place, spotOf(3, place, 11, ""), Math.min(11, place + 1 - place % 2));
      C.due("LAW 3: one who goes further", spotOf(3, place, 11, riders(1, place, 99)), 11);
    }
    C.due("LAW 3: one who does not, at an even PLACE", spotOf(3, 2, 11, riders(1, 2, 1)), 2);
    C.due("LAW 3: one who does not, at an odd PLACE", spotOf(3, 3, 11, riders(1, 3, 1)), 3);
    C.due("LAW 3: one of four", spotOf(3, 2, 4, riders(3, 2, 0) + riders(1, 2, 9)), 4);
    C.due("LAW 3: home at an even PLACE, then alone", spotOf(3, 0, 11, riders(1, 0, 2)), 3);
    C.due("LAW 3: home at an odd PLACE, then alone", spotOf(3, 0, 11, riders(1, 0, 3)), 3);
  }

  private static void halts() {
    String road = "road places 12 law 1 seats 1 odds 0;";
    String ten = "car from 0 to 11 load 1;rider at 0 says 1 home 10;";
    C.due("25 at STEP 10", Check.of(road + ten).halt(), 10);
    C.due("26 CAR 0", Check.of(road + ten).halted(), 0);
    String early = "car from 5 to 11 load 1;rider at 5 says 6 home 6;";
    C.due("25 the first STEP", Check.of(road + ten + early).halt(), 1);
    C.due("26 the CAR of that STEP", Check.of(road + ten + early).halted(), 1);
    String same = "car from 3 to 11 load 1;rider at 3 says 4 home 4;";
    C.due("26 the first of several", Check.of(road + ten + same + early).halted(), 1);
    C.due("25 who never went does not halt", Check.of(road + "car from 0 to 11 load 1;").halt(), -1);
    C.due("25 who arrives does not halt", Check.of(road + "car from 0 to 1 load 1;rider at 0 says 1 home 1;").halt(), -1);
  }

  private static void crowds() {
    String road = "road places 5 law 1 seats 1 odds 0;";
    String[] at = new String[5];
    for (int place = 0; place < 5; place++) {
      at[place] = "rider at " + place + " says 0 home 99;";
    }
    C.due("27 one at the last PLACE", Check.of(road + at[4]).crowd(0), 4);
    C.due("27 the least of several", Check.of(road + at[4] + at[3] + at[1]).crowd(24), 1);
    C.due("27 PLACE 0 of several", Check.of(road + at[4] + at[0]).crowd(24), 0);
    C.due("27 more than at a lesser one", Check.of(road + at[0] + at[4] + at[4]).crowd(12), 4);
    C.due("27 two and two", Check.of(road + at[3] + at[2] + at[3] + at[2] + at[0]).crowd(12), 2);
    C.due("27 who is home does not wait", Check.of(road + "rider at 2 says 9 home 2;").crowd(0), -1);
    C.due("21 all six", Check.of(road + at[2].repeat(6)).waiting(2, 0), 63);
    C.due("21 elsewhere", Check.of(road + at[2].repeat(6)).waiting(1, 0), 0);
    for (int places = 2; places <= 12; places++) {
      NorthRoad x = Check.of(road.replace("places 5", "places " + places) + "rider at " + (places - 1) + " says 0 home 99;");
      C.due("21 the last PLACE", x.waiting(places - 1, 24), 1);
      C.due("21 no such PLACE", x.waiting(places, 24), -2);
      C.due("27 the last PLACE", x.crowd(24), places - 1);
    }
  }

  private static void leads() {
    String road = "road places 5 law 1 seats 1 odds 0;";
    C.due("34 at one PLACE", Check.of(road + "car from 1 to 2 load 0;car from 1 to 4 load 9;").lead(0), 0);
    C.due("34 at PLACE 0", Check.of(road + "car from 0 to 2 load 0;").lead(24), 0);
    C.due("34 CAR 2", Check.of(road + "car from 0 to 1 load 0;car from 1 to 2 load 0;car from 2 to 3 load 0;").lead(0), 2);
    NorthRoad x = Check.of(road + "car from 1 to 2 load 0;car from 0 to 4 load 0;rider at 0 says 1 home 9;");
    C.due("34 ahead", x.lead(0), 0);
    C.due("34 beside, the first", x.lead(1), 0);
    C.due("34 passed", x.lead(2), 1);
  }

  private static void meetings() {
    String road = "road places 5 law 1 seats 2 odds 0;car from 0 to 4 load 1;car from 0 to 4 load 1;";
    NorthRoad x = Check.of(road + "rider at 0 says 1 home 9;rider at 3 says 4 home 9;rider at 0 says 1 home 3;"
        + "rider at 0 says 1 home 2;rider at 4 says 5 home 0;");
    C.due("28 at STEP 0", x.meets(0, 2), 0);
    C.due("28 in two CARS at one STEP", x.meets(0, 3), -1);
    C.due("28 in one at STEP 3, when a seat is free", x.meets(1, 0), 3);
    C.due("28 one gets out when the other gets in", x.meets(1, 2), -1);
    C.due("28 one twice, at STEP 3", x.meets(1, 1), 3);
    C.due("28 one twice, at none", x.meets(4, 4), -1);
    C.due("28 the other way round", x.meets(2, 0), 0);
  }

  private static void misses() {
    NorthRoad x = Check.of("road places 5 law 1 seats 1 odds 0;car from 2 to 4 load 1;rider at 2 says 2 home 9;");
    C.due("35 at all 25 STEPS", x.missed(0), 25);
    C.due("20 at all 25 STEPS", x.waits(0), 25);
    NorthRoad y = Check.of("road places 5 law 1 seats 1 odds 0;car from 0 to 4 load 1;car from 0 to 4 load 1;"
        + "rider at 1 says 1 home 9;rider at 0 says 1 home 9;rider at 0 says 1 home 9;");
    C.due("35 two CARS at one STEP are one STEP", y.missed(0), 1);
    C.due("35 in a CAR he misses none", y.missed(1), 0);
  }
}
