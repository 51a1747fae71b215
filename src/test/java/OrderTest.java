import java.util.ArrayList;
import java.util.List;
import java.util.Random;

/**
 * What a call answers depends on the ROAD as it is, not on what was asked, told, kept or refused ahead
 * of it: an object on which all that was done answers as a new one that was brought there at once.
 */
public final class OrderTest {
  private static final Check C = new Check();
  private static final Random RANDOM = new Random(75);

  private static final String ONE = "road places 7 law 2 seats 2 odds 3;car from 0 to 2 load 10;car from 2 to 6 load 30;"
      + "car from 1 to 5 load 5;rider at 0 says 3 home 2;rider at 0 says 6 home 6;rider at 2 says 3 home 3;"
      + "rider at 1 says 9 home 50;rider at 4 says 1 home 1;rider at 5 says 9 home 5;";
  private static final String OTHER = "road places 5 law 1 seats 1 odds 5;car from 0 to 2 load 5;car from 2 to 4 load 7;"
      + "rider at 0 says 1 home 9;rider at 0 says 4 home 4;rider at 3 says 9 home 4;";

  public static void main(String[] args) {
    C.due("the two ROADS differ", !answers(Check.of(ONE)).equals(answers(Check.of(OTHER))));
    anyOrder(ONE);
    anyOrder(OTHER);
    behindRoad();
    behindActs();
    behindRate();
    behindBack();
    C.close();
  }

  /** The calls that ask, as numbers that answer() knows: few enough that an object is asked all of them twice. */
  private static List<Integer> asks() {
    List<Integer> all = new ArrayList<>();
    for (int k = 0; k < 26; k++) {
      for (int who : new int[] {0, 1, 3}) {
        all.add(10 * k + who);
      }
    }
    return all;
  }

  private static int answer(NorthRoad x, int ask) {
    int who = ask % 10;
    int car = who % 3;
    switch (ask / 10) {
      case 0: return x.at(car, 2 + who) * 100 + x.runs(car, who);
      case 1: return x.aboard(car, who) * 100 + x.further(car, who);
      case 2: return x.stands(car) * 100 + x.stuck(car);
      case 3: return x.within(who, 2) * 100 + x.place(who, 5);
      case 4: return x.home(who) * 100 + x.waits(who);
      case 5: return x.waiting(who, 3) * 100 + x.crowd(who);
      case 6: return x.loads(4 * who) * 100 + x.homes(4 * who);
      case 7: return x.halt() * 100 + x.halted();
      case 8: return x.meets(who, 3) * 100 + x.missed(who);
      case 9: return x.best();
      case 10: return x.plan(who);
      case 11: return x.ways();
      case 12: return x.cover() * 100 + x.needed();
      case 13: return x.pair() * 10000 + x.worth(who);
      case 14: return x.stand(who);
      case 15: return x.sign(who);
      case 16: return x.signs(who);
      case 17: return x.share(who, 0) * 1000 + x.share(who, 1);
      case 18: return x.house(0, who) * 1000 + x.ask(0, who);
      case 19: return x.laws(0) * 1000 + x.odds(0, who, 1);
      case 20: return x.by(who % 4) * 10 + x.law();
      case 21: return x.rests(who, 3);
      case 22: return x.gets(who, (who + 1) % 6, 0, who & 1);
      case 23: return x.chance(car, 0) + x.far(car, who & 1);
      case 24: return x.mean(who & 1);
      default: return x.drawn(who * 1000, 1) * 100 + x.luck(who, 9, car);
    }
  }

  private static String answers(NorthRoad x) {
    x.row(0, 0, 3);
    StringBuilder s = new StringBuilder();
    for (int ask : asks()) {
      s.append(answer(x, ask)).append(' ');
    }
    return s.toString();
  }

  /** Each call behind each other one, in the end. */
  private static void anyOrder(String text) {
    List<Integer> asks = asks();
    int[] due = new int[300];
    for (int ask : asks) {
      NorthRoad x = Check.of(text);
      x.row(0, 0, 3);
      due[ask] = answer(x, ask);
    }
    for (int round = 0; round < 300; round++) {
      NorthRoad x = Check.of(text);
      x.row(0, 0, 3);
      int ahead = -1;
      for (int k = 0; k < 100; k++) {
        int ask = asks.get(RANDOM.nextInt(asks.size()));
        C.due("call " + ask + " behind " + ahead, answer(x, ask), due[ask]);
        ahead = ask;
      }
    }
  }

  private static void as(String what, NorthRoad x, NorthRoad fresh) {
    C.same(what, answers(fresh), answers(x));
  }

  private static NorthRoad asked(String text) {
    NorthRoad x = Check.of(text);
    answers(x);
    return x;
  }

  private static void behindRoad() {
    NorthRoad x = asked(ONE);
    Check.read(x, OTHER);
    as("4 another ROAD", x, Check.of(OTHER));
    NorthRoad y = asked(OTHER);
    Check.read(y, ONE + "?");
    as("4 a FAULT", y, Check.of(OTHER));
    NorthRoad z = asked(OTHER);
    Check.read(z, "");
    as("4 no ROAD", z, new NorthRoad());
  }

  private static void behindActs() {
    NorthRoad told = asked(OTHER);
    told.tell(0, 3);
    as("64 as if told so", told, Check.of(OTHER.replace("at 0 says 1", "at 0 says 3")));
    told.undo();
    as("65 as if never told", told, Check.of(OTHER));
    NorthRoad barred = asked(OTHER);
    barred.bar(0, 0, 1);
    NorthRoad fresh = Check.of(OTHER);
    fresh.bar(0, 0, 1);
    as("63 barred", barred, fresh);
    barred.bar(0, 0, 0);
    as("63 as if never barred", barred, Check.of(OTHER));
    NorthRoad anew = Check.of(OTHER);
    anew.bar(1, 1, 1);
    anew.tell(1, 0);
    answers(anew);
    anew.anew();
    as("66 as if nothing had been done", anew, Check.of(OTHER));
  }

  private static void behindRate() {
    NorthRoad x = asked(OTHER);
    x.rate(1, 99);
    as("69 as if told so", x, Check.of(OTHER.replace("load 7", "load 99")));
  }

  private static void behindBack() {
    NorthRoad x = Check.of(ONE);
    x.image(0);
    Check.read(x, OTHER);
    answers(x);
    x.back(0);
    as("72 the first ROAD", x, Check.of(ONE));
    NorthRoad y = asked(OTHER);
    y.image(1);
    y.tell(0, 3);
    answers(y);
    y.back(1);
    as("72 ahead of the act", y, Check.of(OTHER));
  }
}
