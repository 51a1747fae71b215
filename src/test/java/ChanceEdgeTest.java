import java.math.BigInteger;

/**
 * Terms V and VI and promises 58 to 62, 67 and 68: two who come or stay away in every way that can be
 * at REST, odds from 0 to 10, lowest terms, and days drawn from the first seed to the last.
 */
public final class ChanceEdgeTest {
  private static final Check C = new Check();
  private static final int MIN = Integer.MIN_VALUE;
  private static final int MAX = Integer.MAX_VALUE;
  private static final int LAST_SEED = 2000000000;

  /** Each RIDER takes the CAR one PLACE further to his home: it arrives by all six alone. */
  private static final String CHAIN = "road places 7 law 1 seats 1 odds 5;car from 0 to 6 load 99;"
      + "rider at 0 says 1 home 1;rider at 1 says 2 home 2;rider at 2 says 3 home 3;rider at 3 says 4 home 4;"
      + "rider at 4 says 5 home 5;rider at 5 says 6 home 6;";

  /** Any of six brings the CAR through. */
  private static final String ANY = "road places 2 law 1 seats 4 odds 5;car from 0 to 1 load 7;"
      + "rider at 0 says 1 home 9;".repeat(6);

  public static void main(String[] args) {
    atRest();
    restRefused();
    getsSteps();
    getsRefused();
    chains();
    lowestTerms();
    nobody();
    chanceRefused();
    drawnSeeds();
    drawnOdds();
    drawnRefused();
    lucks();
    luckRefused();
    C.close();
  }

  private static void rests(String what, String text, int due) {
    NorthRoad x = Check.of(text);
    C.due("58 " + what, x.rests(0, 1), due);
    int turned = due & 9 | (due & 2) << 1 | (due & 4) >> 1;
    C.due("58 the other way round, " + what, x.rests(1, 0), turned);
  }

  private static void atRest() {
    rests("both come", "road places 4 law 1 seats 1 odds 0;car from 0 to 1 load 1;rider at 0 says 1 home 1;"
        + "rider at 3 says 0 home 3;", 1);
    rests("the first one stays away", "road places 4 law 1 seats 1 odds 0;rider at 0 says 1 home 1;"
        + "rider at 3 says 0 home 3;", 2);
    rests("the other one stays away", "road places 4 law 1 seats 1 odds 0;rider at 3 says 1 home 3;"
        + "rider at 3 says 0 home 2;", 4);
    rests("both stay away", "road places 4 law 1 seats 1 odds 0;rider at 0 says 1 home 1;rider at 1 says 9 home 2;", 8);
    rests("either of them, by whom the CAR is full", "road places 4 law 0 seats 2 odds 0;car from 1 to 2 load 1;"
        + "rider at 1 says 4 home 2;rider at 1 says 3 home 2;rider at 1 says 3 home 3;", 6);
    rests("both or none", "road places 6 law 2 seats 2 odds 0;car from 0 to 5 load 1;rider at 0 says 3 home 5;"
        + "rider at 1 says 3 home 4;rider at 3 says 4 home 0;", 9);
    rests("never", "road places 4 law 3 seats 1 odds 0;car from 0 to 1 load 1;car from 0 to 3 load 1;"
        + "rider at 0 says 2 home 2;rider at 0 says 1 home 3;", 0);
  }

  private static void restRefused() {
    NorthRoad x = Check.of(ANY);
    for (int rider = 0; rider < 6; rider++) {
      C.due("58 one twice", x.rests(rider, rider), -2);
      C.due("59 one twice", x.gets(rider, rider, 0, 0), -1000);
    }
    for (int none : new int[] {6, -1, MIN, MAX}) {
      C.due("58 no RIDER " + none, x.rests(0, none), -2);
      C.due("58 no RIDER " + none, x.rests(none, 0), -2);
      C.due("58 no RIDER twice", x.rests(none, none), -2);
    }
    C.due("58 the last two", x.rests(4, 5), 8);
  }

  private static void getsSteps() {
    String line = "road places 12 law 1 seats 4 odds 0;car from 0 to 11 load 1;rider at 0 says 12 home 11;";
    for (int home = 0; home <= 12; home++) {
      NorthRoad x = Check.of(line + "rider at 0 says 1 home " + home + ";");
      C.due("59 25 less home(), " + home, x.gets(1, 0, 0, 0), home > 11 ? 0 : 25 - home);
      C.due("59 he drives himself", x.gets(1, 0, 0, 1), home > 11 ? 0 : 25 - home);
      C.due("59 3 if he stays away", x.gets(1, 0, 1, 0), 3);
      C.due("59 3 if both stay away", x.gets(1, 0, 1, 1), 3);
    }
    NorthRoad x = Check.of(CHAIN);
    C.due("59 brought by the other", x.gets(1, 0, 0, 0), 23);
    C.due("59 the other stays away", x.gets(1, 0, 0, 1), 0);
    C.due("59 the last, at STEP 6", x.gets(5, 4, 0, 0), 19);
    C.due("59 the last without the one ahead", x.gets(5, 4, 0, 1), 0);
    x.tell(2, 2);
    C.due("59 as is told now", x.gets(5, 4, 0, 0), 0);
    x.undo();
    x.bar(0, 5, 1);
    C.due("59 as is barred now", x.gets(5, 4, 0, 0), 0);
  }

  private static void getsRefused() {
    NorthRoad x = Check.of(CHAIN);
    for (int none : new int[] {6, -1, MIN, MAX}) {
      C.due("59 no RIDER " + none, x.gets(none, 0, 0, 0), -1000);
      C.due("59 no RIDER " + none, x.gets(0, none, 0, 0), -1000);
      C.due("59 no RIDER, who stays away", x.gets(none, 0, 1, 1), -1000);
    }
    for (int none : new int[] {2, -1, MIN, MAX}) {
      C.due("59 no choice " + none, x.gets(0, 1, none, 0), -1000);
      C.due("59 no choice " + none, x.gets(0, 1, 0, none), -1000);
      C.due("59 no choice of the other", x.gets(0, 1, 1, none), -1000);
    }
    C.due("59 no ROAD", new NorthRoad().gets(0, 1, 0, 0), -1000);
    C.due("58 no ROAD", new NorthRoad().rests(0, 1), -2);
  }

  private static void part(String call, int above, int below, BigInteger wantAbove, BigInteger wantBelow) {
    BigInteger divisor = wantAbove.gcd(wantBelow);
    C.due(call + " above", above, wantAbove.divide(divisor).intValueExact());
    C.due(call + " below", below, wantBelow.divide(divisor).intValueExact());
  }

  /** The CAR of CHAIN is at PLACE k or further if the first k come. */
  private static void chains() {
    for (int odds = 0; odds <= 10; odds++) {
      NorthRoad x = Check.of(CHAIN.replace("odds 5", "odds " + odds));
      BigInteger come = BigInteger.valueOf(10 - odds);
      BigInteger ten = BigInteger.TEN;
      BigInteger places = BigInteger.ZERO;
      for (int k = 1; k <= 6; k++) {
        places = places.add(come.pow(k).multiply(ten.pow(6 - k)));
      }
      String by = " by odds " + odds;
      part("60 chance" + by, x.chance(0, 0), x.chance(0, 1), come.pow(6), ten.pow(6));
      part("61 mean" + by, x.mean(0), x.mean(1), come.pow(6).multiply(BigInteger.valueOf(99)), ten.pow(6));
      part("62 far" + by, x.far(0, 0), x.far(0, 1), places, ten.pow(6));
      NorthRoad y = Check.of(ANY.replace("odds 5", "odds " + odds));
      BigInteger any = ten.pow(6).subtract(BigInteger.valueOf(odds).pow(6));
      part("60 any" + by, y.chance(0, 0), y.chance(0, 1), any, ten.pow(6));
      part("61 any" + by, y.mean(0), y.mean(1), any.multiply(BigInteger.valueOf(7)), ten.pow(6));
      part("62 any" + by, y.far(0, 0), y.far(0, 1), any, ten.pow(6));
    }
  }

  private static void lowestTerms() {
    NorthRoad never = Check.of(ANY.replace("odds 5", "odds 10"));
    C.due("VI 0 above", never.chance(0, 0), 0);
    C.due("VI 1 below", never.chance(0, 1), 1);
    C.due("VI 0 above", never.mean(0), 0);
    C.due("VI 1 below", never.mean(1), 1);
    C.due("VI 0 above", never.far(0, 0), 0);
    C.due("VI 1 below", never.far(0, 1), 1);
    NorthRoad sure = Check.of(ANY.replace("odds 5", "odds 0"));
    C.due("VI 1 above", sure.chance(0, 0), 1);
    C.due("VI 1 below", sure.chance(0, 1), 1);
    C.due("VI 7 above", sure.mean(0), 7);
    C.due("VI 1 below", sure.mean(1), 1);
    NorthRoad half = Check.of("road places 3 law 1 seats 1 odds 5;car from 1 to 2 load 10;rider at 1 says 2 home 9;");
    C.due("61 10 of 2 is 5", half.mean(0), 5);
    C.due("61 of 1", half.mean(1), 1);
    C.due("62 3 of 2", half.far(0, 0), 3);
    C.due("62 3 of 2", half.far(0, 1), 2);
    half.bar(0, 0, 1);
    C.due("60 as is barred now", half.chance(0, 0), 0);
    C.due("62 it stays at 1", half.far(0, 0), 1);
    C.due("62 of 1", half.far(0, 1), 1);
  }

  private static void nobody() {
    NorthRoad x = Check.of("road places 2 law 3 seats 1 odds 10;car from 0 to 1 load 99;");
    C.due("60 without RIDERS it goes by itself", x.chance(0, 0), 1);
    C.due("60 of 1", x.chance(0, 1), 1);
    C.due("61 without RIDERS", x.mean(0), 99);
    C.due("62 without RIDERS", x.far(0, 0), 1);
    C.due("67 nobody is drawn", x.drawn(0, 0), 0);
    C.due("67 loads", x.drawn(0, 1), 99);
    C.due("68 every day", x.luck(LAST_SEED, 20, 0), 20);
    NorthRoad bare = Check.of("road places 2 law 3 seats 1 odds 10;rider at 0 says 1 home 1;");
    C.due("61 without CARS", bare.mean(0), 0);
    C.due("61 without CARS", bare.mean(1), 1);
    C.due("67 he does not come", bare.drawn(0, 0), 1);
    C.due("60 no CAR", bare.chance(0, 0), -2);
    C.due("68 no CAR", bare.luck(0, 1, 0), -2);
  }

  private static void chanceRefused() {
    NorthRoad x = Check.of(ANY);
    for (int none : new int[] {1, 3, -1, MIN, MAX}) {
      C.due("60 no CAR " + none, x.chance(none, 0), -2);
      C.due("62 no CAR " + none, x.far(none, 1), -2);
    }
    for (int none : new int[] {2, -1, MIN, MAX}) {
      C.due("60 no what " + none, x.chance(0, none), -2);
      C.due("61 no what " + none, x.mean(none), -2);
      C.due("62 no what " + none, x.far(0, none), -2);
    }
    C.due("61 no ROAD", new NorthRoad().mean(0), -2);
  }

  private static int[] draws(int seed) {
    BigInteger x = BigInteger.valueOf(seed);
    int[] draws = new int[6];
    for (int k = 0; k < 6; k++) {
      x = x.multiply(BigInteger.valueOf(1103515245)).add(BigInteger.valueOf(12345)).mod(BigInteger.ONE.shiftLeft(31));
      draws[k] = x.divide(BigInteger.valueOf(65536)).mod(BigInteger.TEN).intValueExact();
    }
    return draws;
  }

  /** The draws of these seeds were worked out apart from any program of this project. */
  private static void drawnSeeds() {
    int[] seeds = {0, 1, 2, 20, 1999999999, LAST_SEED};
    int[][] draws = {{0, 8, 8, 7, 8, 7}, {8, 8, 3, 5, 1, 7}, {8, 7, 9, 4, 7, 5}, {6, 2, 2, 1, 6, 9},
      {3, 3, 6, 9, 1, 1}, {4, 3, 1, 7, 6, 2}};
    for (int odds = 0; odds <= 10; odds++) {
      NorthRoad x = Check.of(ANY.replace("odds 5", "odds " + odds));
      for (int k = 0; k < seeds.length; k++) {
        int away = 0;
        for (int rider = 0; rider < 6; rider++) {
          away |= draws[k][rider] < odds ? 1 << rider : 0;
          C.due("VI draws", draws(seeds[k])[rider], draws[k][rider]);
        }
        C.due("67 seed " + seeds[k] + " by odds " + odds, x.drawn(seeds[k], 0), away);
        C.due("67 loads of it", x.drawn(seeds[k], 1), away == 63 ? 0 : 7);
      }
    }
  }

  private static void drawnOdds() {
    NorthRoad x = Check.of(CHAIN.replace("odds 5", "odds 1"));
    C.due("67 one does not come", x.drawn(0, 0), 1);
    C.due("67 so that nothing comes through", x.drawn(0, 1), 0);
    C.due("67 all come", x.drawn(1, 0), 0);
    C.due("67 and it comes through", x.drawn(1, 1), 99);
    x.bar(0, 3, 1);
    C.due("67 who is barred comes, all the same", x.drawn(1, 0), 0);
    C.due("67 but is not taken", x.drawn(1, 1), 0);
    C.due("68 nor by luck", x.luck(1, 1, 0), 0);
    x.undo();
    C.due("68 luck", x.luck(1, 1, 0), 1);
  }

  private static void drawnRefused() {
    NorthRoad x = Check.of(ANY);
    for (int seed : new int[] {-1, MIN, LAST_SEED + 1, MAX}) {
      C.due("67 no seed " + seed, x.drawn(seed, 0), -2);
      C.due("67 no seed " + seed, x.drawn(seed, 1), -2);
      C.due("68 no seed " + seed, x.luck(seed, 1, 0), -2);
    }
    for (int what : new int[] {2, -1, MIN, MAX}) {
      C.due("67 no what " + what, x.drawn(0, what), -2);
    }
    C.due("67 no ROAD", new NorthRoad().drawn(0, 0), -2);
    C.due("67 no ROAD", new NorthRoad().drawn(0, 1), -2);
  }

  private static void lucks() {
    String one = "road places 2 law 1 seats 1 odds 4;car from 0 to 1 load 7;car from 0 to 1 load 7;rider at 0 says 1 home 9;";
    NorthRoad x = Check.of(one);
    for (int seed : new int[] {0, 1, 777, 1999999980, 1999999981, LAST_SEED}) {
      int days = 0;
      for (int n = 1; n <= 20; n++) {
        days += draws(seed + n - 1)[0] >= 4 ? 1 : 0;
        C.due("68 luck(" + seed + ", " + n + ", 0)", x.luck(seed, n, 0), days);
      }
      C.due("68 CAR 1 never", x.luck(seed, 20, 1), 0);
    }
    C.due("68 none of them", Check.of(one.replace("odds 4", "odds 10")).luck(5, 20, 0), 0);
    C.due("68 all of them", Check.of(one.replace("odds 4", "odds 0")).luck(5, 20, 0), 20);
  }

  private static void luckRefused() {
    NorthRoad x = Check.of(ANY);
    C.due("68 n 1", x.luck(0, 1, 0), 1);
    C.due("68 n 20", x.luck(0, 20, 0) >= 0);
    for (int n : new int[] {0, 21, -1, MIN, MAX}) {
      C.due("68 no n " + n, x.luck(0, n, 0), -2);
    }
    for (int car : new int[] {1, 3, -1, MIN, MAX}) {
      C.due("68 no CAR " + car, x.luck(0, 1, car), -2);
    }
    C.due("68 no ROAD", new NorthRoad().luck(0, 1, 0), -2);
  }
}
