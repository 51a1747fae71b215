/**
 * Promise by promise, answers worked out by hand from the document's words: ordinary inputs, the
 * edges that it names, and wrong inputs. A label's number is the promise's.
 */
public final class PromiseTest {
  private static final Check C = new Check();
  private static final int MIN = Integer.MIN_VALUE;
  private static final int MAX = Integer.MAX_VALUE;

  /**
   * CAR 0 takes RIDERS 0 and 1, leaves 0 at home (PLACE 2), arrives at STEP 4. CAR 1 takes RIDER 2
   * home to PLACE 3, and stays there. RIDER 3 waits at PLACE 4 for good, and RIDER 1 from STEP 4 on.
   */
  private static final String NORTH = "road places 6 law 1 seats 2 odds 3;\n"
      + "car from 0 to 4 load 10;\ncar from 2 to 5 load 30;\n"
      + "rider at 0 says 3 home 2;\nrider at 0 says 5 home 5;\n"
      + "rider at 2 says 3 home 3;\nrider at 4 says 9 home 50;\n";

  /**
   * One seat: CAR 0 takes RIDER 0 to PLACE 2, where his sign is too low for CAR 1. RIDER 1, if he
   * came alone, would make both arrive.
   */
  private static final String CHANGE = "road places 5 law 1 seats 1 odds 5;car from 0 to 2 load 5;"
      + "car from 2 to 4 load 7;rider at 0 says 1 home 9;rider at 0 says 4 home 4;";

  /** Nobody rides: CAR 0 goes on from an even PLACE without anybody, CAR 1 stays at an odd one. */
  private static final String EMPTY = "road places 5 law 3 seats 1 odds 0;"
      + "car from 0 to 1 load 9;car from 1 to 3 load 1;";

  /** RIDER 1 gets in at PLACE 1, and then just half of those in it go further. */
  private static final String HALF = "road places 4 law 2 seats 2 odds 0;car from 0 to 3 load 8;"
      + "rider at 0 says 1 home 9;rider at 1 says 2 home 0;";

  /** Any of three brings the one CAR through. */
  private static final String ANY = "road places 3 law 1 seats 4 odds 0;car from 0 to 1 load 10;"
      + "rider at 0 says 1 home 5;rider at 0 says 1 home 5;rider at 0 says 1 home 5;";

  private static final String BASE = "road places 5 law 1 seats 1 odds 0;";

  public static void main(String[] args) {
    newObject();
    tape();
    texts();
    faultsStay();
    told();
    carsBySteps();
    ridersBySteps();
    wholeSteps();
    laws();
    changes();
    rows();
    sets();
    tellings();
    shares();
    seen();
    games();
    chances();
    acts();
    draws();
    counts();
    images();
    slots();
    C.close();
  }

  private static void newObject() {
    NorthRoad x = new NorthRoad();
    for (int what = 0; what < 10; what++) {
      C.due("1 count(" + what + ")", x.count(what), 0);
    }
    C.due("1 ends", x.ends(), -2);
    C.due("1 anew", x.anew(), -2);
    C.due("1 NONE", NorthRoad.NONE, -1);
    C.due("5 fault(0) ahead of any", x.fault(0), 0);
    C.due("5 fault(1) ahead of any", x.fault(1), -1);
    int[] without = {x.done(0), x.loads(0), x.homes(0), x.halt(), x.halted(), x.crowd(0), x.empty(0), x.idle(0),
      x.lead(0), x.best(), x.ways(), x.cover(), x.needed(), x.pair(), x.fair(0), x.leave(0), x.laws(0), x.by(0), x.law(),
      x.mean(0), x.undo(), x.drawn(0, 0), x.waiting(0, 0), x.plan(0), x.house(0, 0), x.luck(0, 1, 0), x.rate(0, 0)};
    for (int k = 0; k < without.length; k++) {
      C.due("1 no ROAD, call " + k, without[k], -2);
    }
    C.due("42 worth without a ROAD", x.worth(0), -1000);
    C.due("59 gets without a ROAD", x.gets(0, 1, 0, 0), -1000);
  }

  private static void tape() {
    NorthRoad x = new NorthRoad();
    for (int k = 1; k <= 35; k++) {
      C.due("2 feed " + k, x.feed(-1, MIN, MAX, 0, 1), 20 * k);
    }
    C.due("2 feed above 700", x.feed(0, 0, 0, 0, 0), -1);
    C.due("2 none come", x.count(8), 700);
    C.due("3 end(701)", x.end(701), -1);
    C.due("3 end(-1)", x.end(-1), -1);
    C.due("3 nothing happens", x.count(8), 700);
    C.due("3 end(681)", x.end(681), 681);
    C.due("2 feed to 701", x.feed(0, 0, 0, 0, 0), -1);
    C.due("3 end(682)", x.end(682), -1);
    C.due("3 end(0)", x.end(0), 0);
    C.due("3 count", x.count(8), 0);
    // "road places 2 law 3 " "seats 4 odds 10;    "
    C.due("2 feed", x.feed(0x726f6164, 0x20706c61, 0x63657320, 0x32206c61, 0x77203320), 20);
    C.due("2 feed", x.feed(0x73656174, 0x73203420, 0x6f646473, 0x2031303b, 0x20202020), 40);
    C.due("4 road of those bytes", x.road(), 1);
    C.due("4 the TAPE is empty then", x.count(8), 0);
    C.due("2 places", x.count(0), 2);
    C.due("2 law", x.count(1), 3);
    C.due("2 seats", x.count(2), 4);
    C.due("2 odds", x.count(3), 10);
    C.due("4 road of an empty TAPE", x.road(), 0);
    for (int what = 0; what < 8; what++) {
      C.due("4 there is none then, count(" + what + ")", x.count(what), 0);
    }
    C.due("4 no ROAD", x.best(), -2);
    Check.put(x, NORTH);
    C.due("3 end cuts LINES", x.end(35), 35);
    C.due("4 road cut", x.road(), 1);
  }

  private static void text(String text, int fault, int at) {
    NorthRoad x = new NorthRoad();
    C.due("4 road of " + text, x.road() == 0 && Check.read(x, text) == -4);
    C.due("5 fault(0) of " + text, x.fault(0), fault);
    C.due("5 fault(1) of " + text, x.fault(1), at);
    C.due("4 the TAPE stays of " + text, x.count(8), text.length());
  }

  private static void good(String text, int lines) {
    NorthRoad x = new NorthRoad();
    C.due("4 road of " + text, Check.read(x, text), lines);
    C.due("5 fault(0) of " + text, x.fault(0), 0);
    C.due("5 fault(1) of " + text, x.fault(1), -1);
    C.due("70 LINES of " + text, x.count(7), lines);
  }

  private static void texts() {
    text("road places 1", 2, 12);
    text("road places 13", 2, 12);
    text("road places 5 law 4", 2, 18);
    text("road places 5 law 1 seats 0", 2, 26);
    text("road places 5 law 1 seats 5", 2, 26);
    text("road places 5 law 1 seats 1 odds 11", 2, 33);
    text("road places 99999999999999999999", 2, 12);
    text("road places 4294967301", 2, 12);
    text("car", 1, 0);
    text("rider at 0 says 0 home 0;", 1, 0);
    text(";", 1, 0);
    text("5", 1, 0);
    text("  \n Road", 1, 4);
    text("road\tplaces 5", 1, 4);
    text("road 5", 1, 5);
    text("roadplaces 5", 1, 0);
    text("roadz places 5", 1, 0);
    text("roada places 5", 1, 0);
    text("road`", 1, 4);
    text("road{", 1, 4);
    text("road places 5/", 1, 13);
    text("road places 5:", 1, 13);
    text("road places law", 1, 12);
    text("road places ;", 1, 12);
    text("road law 1", 1, 5);
    text("road places 5 law 1 seats 1 odds 0", 1, 34);
    text("road places 5 law 1 seats 1 odds 0 \n", 1, 36);
    text("road places 5 law 1 seats 1 odds 0 7;", 1, 35);
    text("road places 5", 1, 13);
    text(BASE + ";", 1, 35);
    text(BASE + "road", 1, 35);
    text(BASE + "bus", 1, 35);
    text(BASE + "cars", 1, 35);
    text(BASE + (char) 233, 1, 35);
    text(BASE + (char) 0, 1, 35);
    text(BASE + "car from 4", 2, 44);
    text(BASE + "car from 2 to 2", 2, 49);
    text(BASE + "car from 2 to 5", 2, 49);
    text(BASE + "car from 2 to 3 load 100", 2, 56);
    text(BASE + "car from -", 1, 44);
    text(BASE + "car to 2", 1, 39);
    text(BASE + "rider at 5", 2, 44);
    text(BASE + "rider at 0 says 100", 2, 51);
    text(BASE + "rider at 0 says 0 home 100", 2, 58);
    String car = "car from 0 to 1 load 1;";
    String rider = "rider at 0 says 0 home 0;";
    text(BASE + car + car + car + "car", 3, 104);
    text(BASE + car + car + car + "car ?", 3, 104);
    text(BASE + rider + rider + rider + rider + rider + rider + "rider", 3, 185);
    good("", 0);
    good(" \n\n  ", 0);
    good(BASE, 1);
    good("road places 00005law1seats1odds010;", 1);
    good("\nroad\nplaces 12 law 3 seats 4 odds 10 ; ", 1);
    good(BASE + car + car + car + rider + rider + rider + rider + rider + rider, 10);
    good(BASE + rider + "car from 3 to 4 load 99;rider at 4 says 99 home 99;" + car, 5);
  }

  private static void faultsStay() {
    NorthRoad x = Check.of(NORTH);
    x.tell(0, 7);
    C.due("4 a FAULT", Check.read(x, "road places 5;"), -4);
    C.due("4 the ROAD stays", x.count(0), 6);
    C.due("4 acts stay", x.count(6), 1);
    C.due("4 the TAPE stays", x.count(8), 14);
    C.due("4 the same FAULT again", x.road(), -4);
    C.due("5 its place", x.fault(1), 13);
    C.due("5 another what", x.fault(2), -1);
    C.due("5 another what", x.fault(-1), -1);
    C.due("4 another ROAD", Check.read(x, CHANGE), 5);
    C.due("5 without", x.fault(0), 0);
    C.due("4 nothing done", x.count(6), 0);
    C.due("4 in place of another", x.count(5), 2);
    x.bar(0, 0, 1);
    C.due("4 the same ROAD again", Check.read(x, CHANGE), 5);
    C.due("4 nothing barred", x.aboard(0, 0), 1);
  }

  private static void told() {
    NorthRoad x = Check.of(NORTH);
    C.due("6 from", x.car(1, 0), 2);
    C.due("6 to", x.car(1, 1), 5);
    C.due("6 load", x.car(1, 2), 30);
    C.due("6 no such what", x.car(1, 3), -2);
    C.due("6 no such what", x.car(1, -1), -2);
    C.due("6 no such CAR", x.car(2, 0), -2);
    C.due("6 no such CAR", x.car(-1, 0), -2);
    C.due("7 at", x.rider(3, 0), 4);
    C.due("7 says", x.rider(3, 1), 9);
    C.due("7 home", x.rider(3, 2), 50);
    C.due("7 no such what", x.rider(3, 3), -2);
    C.due("7 no such RIDER", x.rider(4, 0), -2);
    x.tell(3, 0);
    C.due("7 says as now", x.rider(3, 1), 0);
  }

  private static void carsBySteps() {
    NorthRoad x = Check.of(NORTH);
    int[] first = {0, 1, 2, 3, 4, 4};
    for (int step = 0; step < 6; step++) {
      C.due("8 at(0, " + step + ")", x.at(0, step), first[step]);
    }
    C.due("8 at(1, 0)", x.at(1, 0), 2);
    C.due("8 at(1, 24)", x.at(1, 24), 3);
    C.due("8 no STEP 25", x.at(1, 25), -2);
    C.due("8 no STEP -1", x.at(1, -1), -2);
    C.due("8 no CAR 2", x.at(2, 0), -2);
    C.due("9 aboard(0, 0)", x.aboard(0, 0), 3);
    C.due("9 aboard(0, 2)", x.aboard(0, 2), 2);
    C.due("9 aboard(0, 4)", x.aboard(0, 4), 0);
    C.due("9 aboard(1, 0)", x.aboard(1, 0), 4);
    C.due("9 aboard(1, 1)", x.aboard(1, 1), 0);
    C.due("9 no such", x.aboard(0, 25), -2);
    C.due("10 runs(0, 3)", x.runs(0, 3), 1);
    C.due("10 runs(0, 4)", x.runs(0, 4), 0);
    C.due("10 runs(1, 0)", x.runs(1, 0), 1);
    C.due("10 runs(1, 1)", x.runs(1, 1), 0);
    C.due("10 runs(1, 24)", x.runs(1, 24), 0);
    C.due("10 no such", x.runs(-1, 0), -2);
    C.due("11 arrives(0)", x.arrives(0), 4);
    C.due("11 arrives(1)", x.arrives(1), -1);
    C.due("11 no such", x.arrives(2), -2);
    C.due("12 stands(0)", x.stands(0), 0);
    C.due("12 stands(1)", x.stands(1), 24);
    C.due("12 no such", x.stands(2), -2);
    C.due("13 stuck(0)", x.stuck(0), 0);
    C.due("13 stuck(1)", x.stuck(1), 24);
    C.due("13 no such", x.stuck(-1), -2);
    C.due("14 fullest(0)", x.fullest(0), 2);
    C.due("14 fullest(1)", x.fullest(1), 1);
    C.due("14 no such", x.fullest(3), -2);
    C.due("29 alone(0)", x.alone(0), 21);
    C.due("29 alone(1)", x.alone(1), 24);
    C.due("29 no such", x.alone(2), -2);
    C.due("31 further(0, 0)", x.further(0, 0), 3);
    C.due("31 further(0, 2)", x.further(0, 2), 2);
    C.due("31 further(0, 4)", x.further(0, 4), 0);
    C.due("31 no such", x.further(0, 25), -2);
    NorthRoad y = Check.of(CHANGE);
    y.tell(0, 3);
    C.due("12 stands, then goes", y.stands(1), 2);
    C.due("13 stuck, then goes", y.stuck(1), 2);
    C.due("11 arrives late", y.arrives(1), 4);
    NorthRoad z = Check.of(HALF);
    C.due("31 further without the other", z.further(0, 1), 1);
    C.due("14 nobody", Check.of(EMPTY).fullest(0), 0);
    C.due("29 at all STEPS", Check.of(EMPTY).alone(1), 25);
    C.due("9 both aboard", z.aboard(0, 1), 3);
  }

  private static void ridersBySteps() {
    NorthRoad x = Check.of(NORTH);
    C.due("15 within(1, 0)", x.within(1, 0), 0);
    C.due("15 within(1, 4)", x.within(1, 4), -1);
    C.due("15 within(2, 0)", x.within(2, 0), 1);
    C.due("15 within(0, 2)", x.within(0, 2), -1);
    C.due("15 no such", x.within(4, 0), -2);
    C.due("15 no such", x.within(0, 25), -2);
    C.due("16 place(1, 3)", x.place(1, 3), 3);
    C.due("16 place(1, 4)", x.place(1, 4), 4);
    C.due("16 place(1, 24)", x.place(1, 24), 4);
    C.due("16 at home for good", x.place(0, 24), 2);
    C.due("16 place(2, 1)", x.place(2, 1), 3);
    C.due("16 no such", x.place(0, -1), -2);
    int[] home = {2, -1, 1, -1};
    int[] cars = {1, 1, 2, 0};
    int[] rides = {2, 4, 1, 0};
    int[] waits = {0, 21, 0, 25};
    for (int r = 0; r < 4; r++) {
      C.due("17 home(" + r + ")", x.home(r), home[r]);
      C.due("18 cars(" + r + ")", x.cars(r), cars[r]);
      C.due("19 rides(" + r + ")", x.rides(r), rides[r]);
      C.due("20 waits(" + r + ")", x.waits(r), waits[r]);
    }
    C.due("17 no such", x.home(4), -2);
    C.due("18 no such", x.cars(-1), -2);
    C.due("19 no such", x.rides(4), -2);
    C.due("20 no such", x.waits(MAX), -2);
    C.due("28 meets(0, 1)", x.meets(0, 1), 0);
    C.due("28 one twice", x.meets(2, 2), 0);
    C.due("28 never in a CAR", x.meets(3, 3), -1);
    C.due("28 never together", x.meets(1, 2), -1);
    C.due("28 no such", x.meets(0, 4), -2);
    C.due("28 no such", x.meets(-1, 0), -2);
    NorthRoad y = Check.of(CHANGE);
    C.due("35 beside a CAR that does not take him", y.missed(0), 23);
    C.due("35 beside a full CAR", y.missed(1), 1);
    C.due("35 no such", y.missed(2), -2);
    C.due("35 no CAR beside", x.missed(3), 0);
    C.due("35 beside an arrived CAR", x.missed(1), 0);
    y.tell(0, 3);
    C.due("18 two CARS", y.cars(0), 3);
    C.due("28 meets later", Check.of(HALF).meets(1, 0), 1);
    NorthRoad z = Check.of(BASE + "car from 0 to 1 load 1;rider at 0 says 9 home 0;");
    C.due("17 home at STEP 0", z.home(0), 0);
    C.due("20 at home he does not wait", z.waits(0), 0);
    C.due("18 nor does a CAR take him", z.cars(0), 0);
  }

  private static void wholeSteps() {
    NorthRoad x = Check.of(NORTH);
    C.due("21 waiting(4, 0)", x.waiting(4, 0), 8);
    C.due("21 waiting(4, 4)", x.waiting(4, 4), 10);
    C.due("21 taken", x.waiting(0, 0), 0);
    C.due("21 at home", x.waiting(2, 24), 0);
    C.due("21 no such PLACE", x.waiting(6, 0), -2);
    C.due("21 no such PLACE", x.waiting(-1, 0), -2);
    C.due("21 no such STEP", x.waiting(0, 25), -2);
    C.due("22 done(3)", x.done(3), 0);
    C.due("22 done(4)", x.done(4), 1);
    C.due("22 done(24)", x.done(24), 1);
    C.due("22 no such", x.done(25), -2);
    C.due("23 loads(3)", x.loads(3), 0);
    C.due("23 loads(4)", x.loads(4), 10);
    C.due("23 no such", x.loads(-1), -2);
    C.due("24 homes(0)", x.homes(0), 0);
    C.due("24 homes(1)", x.homes(1), 4);
    C.due("24 homes(24)", x.homes(24), 5);
    C.due("24 no such", x.homes(25), -2);
    C.due("25 halt", x.halt(), 1);
    C.due("26 halted", x.halted(), 1);
    C.due("27 crowd(0)", x.crowd(0), 4);
    C.due("27 no such", x.crowd(25), -2);
    C.due("30 empty(0)", x.empty(0), 0);
    C.due("30 empty(1)", x.empty(1), 2);
    C.due("30 empty(4)", x.empty(4), 3);
    C.due("30 no such", x.empty(-1), -2);
    C.due("32 idle(0)", x.idle(0), 0);
    C.due("32 idle(24)", x.idle(24), 2);
    C.due("32 no such", x.idle(25), -2);
    C.due("33 ends", x.ends(), -1);
    C.due("34 lead(0)", x.lead(0), 1);
    C.due("34 lead(3), the first", x.lead(3), 0);
    C.due("34 lead(4)", x.lead(4), 0);
    C.due("34 no such", x.lead(25), -2);
    NorthRoad y = Check.of(CHANGE);
    C.due("25 none halts", y.halt(), -1);
    C.due("26 none halted", y.halted(), -1);
    C.due("27 the least of several", Check.of(BASE + "rider at 3 says 0 home 0;rider at 1 says 0 home 0;").crowd(9), 1);
    C.due("27 at PLACE 0", Check.of(BASE + "rider at 3 says 0 home 9;rider at 0 says 0 home 9;").crowd(9), 0);
    C.due("21 RIDER 0", Check.of(BASE + "rider at 3 says 0 home 9;").waiting(3, 24), 1);
    C.due("34 at PLACE 0", Check.of(BASE + "car from 0 to 1 load 1;").lead(0), 0);
    C.due("27 none waits", Check.of(BASE + "rider at 3 says 0 home 3;").crowd(0), -1);
    y.tell(0, 3);
    C.due("33 all arrived", y.ends(), 4);
    C.due("23 both loads", y.loads(24), 12);
    NorthRoad z = Check.of(BASE);
    C.due("33 without CARS", z.ends(), 0);
    C.due("34 without CARS", z.lead(0), -1);
    C.due("26 the first of several", Check.of(BASE + "car from 0 to 3 load 1;car from 0 to 3 load 1;"
        + "rider at 0 says 1 home 1;rider at 0 says 1 home 1;").halted(), 0);
  }

  private static void laws() {
    NorthRoad x = Check.of(HALF);
    C.due("II half is not more than half", x.loads(24), 0);
    C.due("25 it halts there", x.halt(), 1);
    C.due("56 by(0)", x.by(0), 8);
    C.due("56 by(1)", x.by(1), 8);
    C.due("56 by(2)", x.by(2), 0);
    C.due("56 by(3)", x.by(3), 8);
    C.due("56 no such", x.by(4), -2);
    C.due("56 no such", x.by(-1), -2);
    C.due("57 the least of several", x.law(), 0);
    C.due("56 the LAW told stays", x.count(1), 2);
    NorthRoad e = Check.of(EMPTY);
    C.due("II at an even PLACE", e.at(0, 24), 1);
    C.due("II at an odd PLACE", e.at(1, 24), 1);
    C.due("56 by(1)", e.by(1), 0);
    C.due("57 law", e.law(), 3);
    NorthRoad z = Check.of("road places 5 law 0 seats 1 odds 0;car from 0 to 3 load 8;rider at 0 says 1 home 3;");
    C.due("II LAW 0: home is not further than to", z.at(0, 24), 0);
    C.due("57 law", z.law(), 1);
  }

  /** Nothing that was asked ahead of a change is told behind it. */
  private static void changes() {
    NorthRoad x = Check.of(CHANGE);
    long first = all(x);
    x.tell(0, 3);
    long second = all(x);
    C.due("64 another day", second != first);
    x.undo();
    C.due("65 as it was", all(x), first);
    x.bar(0, 0, 1);
    C.due("63 another day", all(x) != first && all(x) != second);
    x.anew();
    C.due("66 as it was", all(x), first);
    x.rate(1, 8);
    long rated = all(x);
    C.due("69 another mean", rated != first);
    x.image(0);
    C.due("4 another ROAD", Check.read(x, NORTH), 7);
    C.due("4 another day", all(x) != rated);
    x.back(0);
    C.due("72 as it was", all(x), rated);
    x.rate(1, 7);
    C.due("69 as it was", all(x), first);
  }

  private static long all(NorthRoad x) {
    long sum = x.loads(24) + 31L * x.mean(0) + 997L * x.best() + 31013L * x.waits(0) + 1000003L * x.aboard(0, 0);
    return sum + 100000007L * x.ways() + 7000000001L * x.worth(0);
  }

  private static void rows() {
    NorthRoad x = Check.of(NORTH);
    C.due("36 best", x.best(), 10);
    C.due("38 ways", x.ways(), 27);
    C.due("37 plan(0)", x.plan(0), -1);
    C.due("37 plan(1)", x.plan(1), 0);
    C.due("37 plan(3)", x.plan(3), -1);
    C.due("37 no such", x.plan(4), -2);
    NorthRoad y = Check.of(CHANGE);
    C.due("36 best", y.best(), 5);
    C.due("38 ways", y.ways(), 5);
    C.due("37 none first", y.plan(0), -1);
    C.due("37 plan(1)", y.plan(1), 0);
    y.bar(0, 0, 1);
    y.bar(0, 1, 1);
    C.due("36 bars of acts aside", y.best(), 5);
    C.due("38 bars of acts aside", y.ways(), 5);
    C.due("36 nothing happens", y.loads(24), 0);
    NorthRoad e = Check.of(EMPTY);
    C.due("36 without RIDERS", e.best(), 9);
    C.due("38 the empty row", e.ways(), 1);
    C.due("37 without RIDERS", e.plan(0), -2);
    NorthRoad z = Check.of(BASE + "rider at 0 says 1 home 2;rider at 0 says 1 home 2;");
    C.due("36 without CARS", z.best(), 0);
    C.due("38 without CARS", z.ways(), 1);
  }

  private static void sets() {
    NorthRoad x = Check.of(NORTH);
    C.due("39 cover", x.cover(), 2);
    C.due("40 needed", x.needed(), 2);
    C.due("41 pair", x.pair(), -1);
    C.due("42 worth(1)", x.worth(1), 10);
    C.due("42 worth(0)", x.worth(0), 0);
    C.due("42 no such", x.worth(4), -1000);
    C.due("42 no such", x.worth(-1), -1000);
    NorthRoad y = Check.of(CHANGE);
    C.due("39 one, the least", y.cover(), 1);
    C.due("40 needed", y.needed(), 0);
    C.due("41 pair", y.pair(), 1);
    C.due("42 worth below 0", y.worth(0), -7);
    C.due("42 worth(1)", y.worth(1), 0);
    NorthRoad e = Check.of(EMPTY);
    C.due("39 nobody", e.cover(), 0);
    C.due("40 nobody", e.needed(), 0);
    C.due("41 none", e.pair(), -1);
    C.due("41 three who do as well", Check.of(ANY).pair(), -1);
    String two = BASE + "car from 0 to 1 load 2;car from 2 to 3 load 3;rider at 0 says 1 home 9;rider at 2 says 3 home 9;";
    NorthRoad each = Check.of(two);
    C.due("40 each", each.needed(), 3);
    C.due("39 all", each.cover(), 3);
    C.due("41 less without one already", each.pair(), -1);
    NorthRoad third = Check.of(two + "rider at 2 says 3 home 9;");
    C.due("40 the first alone", third.needed(), 1);
    C.due("41 the other two", third.pair(), 12);
    C.due("39 the least of two sets", third.cover(), 3);
    C.due("39 none bars", Check.of(BASE).cover(), 0);
  }

  private static void tellings() {
    NorthRoad x = Check.of(NORTH);
    C.due("43 stand(1)", x.stand(1), 2);
    C.due("43 stand(0), the least", x.stand(0), 0);
    C.due("43 no such", x.stand(4), -2);
    C.due("43 he stands where he stood", x.rider(1, 0), 0);
    C.due("44 not sooner than now", x.sign(0), -1);
    C.due("44 never", x.sign(1), -1);
    C.due("44 no such", x.sign(4), -2);
    C.due("45 not greater than now", x.signs(1), -1);
    C.due("45 no such", x.signs(-1), -2);
    x.tell(2, 2);
    C.due("17 not home", x.home(2), -1);
    C.due("44 sign(2)", x.sign(2), 3);
    x.tell(1, 0);
    C.due("45 signs(1)", x.signs(1), 1);
    C.due("7 he says what he said", x.rider(1, 1), 0);
    NorthRoad y = Check.of(CHANGE);
    C.due("45 signs(0): 0 makes both arrive", y.signs(0), 0);
    y.tell(1, 0);
    C.due("45 signs(0)", y.signs(0), 3);
    NorthRoad s = Check.of("road places 6 law 1 seats 2 odds 0;car from 0 to 1 load 1;car from 1 to 5 load 1;"
        + "rider at 0 says 1 home 4;rider at 1 says 5 home 3;");
    C.due("44 by another CAR", s.sign(0), -1);
  }

  private static void fill(NorthRoad x, int slot, int width, long... numbers) {
    C.due("73 row", x.row(slot, width, numbers.length), 0);
    for (int i = 0; i < numbers.length; i++) {
      C.due("74 write", x.write(slot, i, numbers[i]), 0);
    }
  }

  private static void shares() {
    NorthRoad x = Check.of(CHANGE);
    C.due("46 below 0", x.share(0, 0), -1);
    C.due("46 below", x.share(0, 1), 1);
    C.due("46 above", x.share(1, 0), 6);
    C.due("46 no such", x.share(2, 0), -2);
    C.due("46 no such what", x.share(0, 2), -2);
    NorthRoad y = Check.of(ANY);
    C.due("46 in lowest terms", y.share(2, 0), 10);
    C.due("46 in lowest terms", y.share(2, 1), 3);
    NorthRoad z = Check.of(NORTH);
    C.due("46 nothing", z.share(0, 0), 0);
    C.due("46 nothing", z.share(0, 1), 1);
    C.due("47 it has nothing", z.fair(0), -6);
    C.due("48 it has nothing", z.leave(0), -6);
    C.due("47 no such SLOT", z.fair(4), -2);
    C.due("48 no such SLOT", z.leave(-1), -2);
    fill(z, 0, 0, 0, 10, 0, 0);
    C.due("47 fair", z.fair(0), 1);
    C.due("48 none leaves", z.leave(0), -1);
    fill(z, 0, 0, 1, 9, 0, 0);
    C.due("47 one leaves", z.fair(0), 0);
    C.due("48 one leaves", z.leave(0), 2);
    fill(z, 0, 1, 0, 11, 0, 0);
    C.due("47 more than all bring", z.fair(0), 0);
    C.due("48 none leaves", z.leave(0), -1);
    fill(z, 0, 0, -1, 11, 0, 0);
    C.due("48 who brings nothing leaves below 0", z.leave(0), 1);
    fill(z, 0, 3, Long.MAX_VALUE, Long.MAX_VALUE, Long.MIN_VALUE, 0);
    C.due("48 beyond a long", z.leave(0), 4);
    fill(z, 0, 3, 4294967295L, 4294967295L, 4294967295L, 0);
    C.due("48 beyond an int", z.leave(0), -1);
    C.due("47 beyond an int", z.fair(0), 0);
    fill(z, 0, 3, 0, Long.MAX_VALUE, 0, Long.MIN_VALUE + 11);
    C.due("47 beyond a long", z.fair(0), 0);
    C.due("48 beyond a long", z.leave(0), 8);
    fill(z, 0, 0, 0, 138, 0, 128);
    C.due("48 cut to a byte", z.leave(0), 2);
    C.due("73 row", z.row(0, 0, 3), 0);
    C.due("47 not as many as RIDERS", z.fair(0), -2);
    C.due("48 not as many as RIDERS", z.leave(0), -2);
    NorthRoad e = Check.of(EMPTY);
    e.row(0, 0, 0);
    C.due("47 nobody is given what is brought", e.fair(0), 0);
    C.due("48 nobody ever would", e.leave(0), -1);
    NorthRoad b = Check.of(BASE);
    b.row(0, 0, 0);
    C.due("47 nothing is nothing", b.fair(0), 1);
    NorthRoad n = new NorthRoad();
    n.row(0, 0, 0);
    C.due("47 no ROAD", n.fair(0), -2);
    C.due("48 no ROAD ahead of nothing", n.leave(1), -2);
    fill(x, 0, 0, -7, 12);
    C.due("48 less than it brings", x.leave(0), 1);
  }

  private static void seen() {
    NorthRoad x = Check.of(NORTH);
    C.due("49 it has nothing", x.house(1, 2), -6);
    C.due("54 it has nothing", x.odds(1, 2, 0), -6);
    C.due("55 it has nothing", x.laws(1), -6);
    C.due("54 no such what ahead of nothing", x.odds(1, 2, 2), -2);
    C.due("49 no such RIDER ahead of nothing", x.house(1, 4), -2);
    fill(x, 1, 0, 1, 1, 3);
    C.due("49 house", x.house(1, 2), 18);
    C.due("50 least", x.least(1, 2), 3);
    C.due("51 most", x.most(1, 2), 20);
    C.due("52 ask", x.ask(1, 2), 102);
    C.due("53 leaves", x.leaves(1, 2), 17);
    C.due("54 odds above", x.odds(1, 2, 0), 1);
    C.due("54 odds below", x.odds(1, 2, 1), 6);
    C.due("55 LAWS by which it was so", x.laws(1), 14);
    fill(x, 1, 1, 0, 0, 0);
    C.due("49 STEP 0, PLACE 0", x.house(1, 2), 21);
    fill(x, 1, 1, 1, 5, 2);
    C.due("55 LAW 0", x.laws(1), 1);
    C.due("49 who has no home further", x.house(1, 2), 3);
    C.due("51 most", x.most(1, 2), 2);
    C.due("52 nothing to ask", x.ask(1, 2), -1);
    C.due("53 as now", x.leaves(1, 2), 3);
    C.due("54 only at PLACE 2 he is home", x.odds(1, 2, 1), 3);
    fill(x, 1, 2, 1, 5, 4);
    C.due("49 none", x.house(1, 2), 0);
    C.due("50 none", x.least(1, 2), -1);
    C.due("51 none", x.most(1, 2), -1);
    C.due("52 none", x.ask(1, 2), -1);
    C.due("53 none", x.leaves(1, 2), 0);
    C.due("54 none", x.odds(1, 2, 0), -1);
    C.due("55 none", x.laws(1), 0);
    x.row(1, 3, 0);
    C.due("49 all", x.house(1, 2), 21);
    C.due("50 all", x.least(1, 2), 0);
    C.due("55 all", x.laws(1), 15);
    fill(x, 1, 3, 1, 24, 5, 0, 4, 4);
    C.due("49 two looks", x.house(1, 2), 17);
    C.due("50 two looks", x.least(1, 2), 4);
    C.due("7 the home told stays", x.rider(2, 2), 3);
    long[][] bad = {{2, 0, 0}, {-1, 0, 0}, {0, 25, 0}, {0, -1, 0}, {0, 0, 6}, {0, 0, -1}, {0, 0}, {0, 0, 0, 0},
      {4294967296L, 0, 0}};
    for (long[] b : bad) {
      fill(x, 2, 3, b);
      C.due("49 no such", x.house(2, 2), -2);
      C.due("50 no such", x.least(2, 2), -2);
      C.due("51 no such", x.most(2, 2), -2);
      C.due("52 no such", x.ask(2, 2), -2);
      C.due("53 no such", x.leaves(2, 2), -2);
      C.due("54 no such", x.odds(2, 2, 0), -2);
      C.due("55 no such", x.laws(2), -2);
    }
    C.due("49 no such SLOT", x.house(4, 2), -2);
    C.due("55 no such SLOT", x.laws(4), -2);
    C.due("54 no such what", x.odds(1, 2, -1), -2);
    NorthRoad e = Check.of(EMPTY);
    fill(e, 0, 0, 0, 24, 1);
    C.due("55 RIDERS aside", e.laws(0), 8);
    C.due("49 no such RIDER", e.house(0, 0), -2);
  }

  private static void games() {
    NorthRoad x = Check.of(NORTH);
    C.due("58 the other one stays away", x.rests(0, 1), 4);
    C.due("58 the first one stays away", x.rests(1, 0), 2);
    C.due("58 both stay away", x.rests(1, 3), 8);
    C.due("58 both come", x.rests(0, 2), 1);
    C.due("58 one twice", x.rests(0, 0), -2);
    C.due("58 no such", x.rests(0, 4), -2);
    C.due("58 no such", x.rests(-1, 0), -2);
    C.due("59 comes home", x.gets(0, 1, 0, 0), 23);
    C.due("59 comes home without the other", x.gets(0, 1, 0, 1), 23);
    C.due("59 stays away", x.gets(0, 1, 1, 0), 3);
    C.due("59 never home", x.gets(1, 0, 0, 0), 0);
    C.due("59 one twice", x.gets(0, 0, 0, 0), -1000);
    C.due("59 no such choice", x.gets(0, 1, 2, 0), -1000);
    C.due("59 no such choice", x.gets(0, 1, 0, -1), -1000);
    C.due("59 no such RIDER", x.gets(0, 4, 0, 0), -1000);
    NorthRoad y = Check.of(CHANGE);
    C.due("59 full with the other", y.gets(1, 0, 0, 0), 0);
    C.due("59 home without the other", y.gets(1, 0, 0, 1), 21);
    C.due("58 who can't come home stays away", y.rests(0, 1), 2);
    NorthRoad z = Check.of("road places 4 law 1 seats 1 odds 0;car from 0 to 3 load 1;"
        + "rider at 0 says 1 home 1;rider at 0 says 1 home 1;");
    C.due("58 one of them", z.rests(0, 1), 4);
    NorthRoad even = Check.of("road places 12 law 1 seats 1 odds 0;car from 0 to 11 load 1;car from 0 to 11 load 1;"
        + "rider at 0 says 1 home 11;rider at 0 says 1 home 11;");
    C.due("59 14 by 11 STEPS", even.gets(1, 0, 0, 0), 14);
    C.due("58 both come", even.rests(0, 1), 1);
    NorthRoad need = Check.of("road places 3 law 2 seats 3 odds 0;car from 0 to 2 load 1;rider at 0 says 1 home 1;"
        + "rider at 0 says 1 home 1;rider at 0 says 1 home 0;");
    C.due("58 both come, one home already", need.rests(0, 2), 1);
    NorthRoad pact = Check.of("road places 4 law 2 seats 4 odds 0;car from 1 to 3 load 1;rider at 1 says 2 home 2;"
        + "rider at 1 says 2 home 2;rider at 1 says 2 home 0;");
    C.due("58 each needs the other: both come, or both stay away", pact.rests(0, 1), 9);
    NorthRoad late = Check.of("road places 12 law 1 seats 1 odds 0;car from 0 to 11 load 1;rider at 0 says 1 home 11;"
        + "rider at 0 says 0 home 0;");
    C.due("59 25 less home()", late.gets(0, 1, 0, 0), 14);
    C.due("59 home at STEP 0", late.gets(1, 0, 0, 0), 25);
  }

  private static void chances() {
    NorthRoad x = Check.of(NORTH);
    C.due("60 above", x.chance(0, 0), 7);
    C.due("60 below", x.chance(0, 1), 10);
    C.due("60 never", x.chance(1, 0), 0);
    C.due("60 never: 0 / 1", x.chance(1, 1), 1);
    C.due("60 no such", x.chance(2, 0), -2);
    C.due("60 no such what", x.chance(0, 2), -2);
    C.due("61 above", x.mean(0), 7);
    C.due("61 below", x.mean(1), 1);
    C.due("61 no such what", x.mean(2), -2);
    C.due("62 above", x.far(0, 0), 161);
    C.due("62 below", x.far(0, 1), 50);
    C.due("62 above", x.far(1, 0), 27);
    C.due("62 below", x.far(1, 1), 10);
    C.due("62 no such", x.far(2, 0), -2);
    C.due("62 no such what", x.far(0, -1), -2);
    NorthRoad y = Check.of(CHANGE);
    C.due("60 of one set in four", y.chance(1, 1), 4);
    C.due("61 above", y.mean(0), 11);
    C.due("61 below", y.mean(1), 2);
    C.due("62 above", y.far(1, 0), 5);
    C.due("62 below", y.far(1, 1), 2);
    NorthRoad e = Check.of(EMPTY);
    C.due("60 for sure", e.chance(0, 0), 1);
    C.due("61 for sure", e.mean(0), 9);
    NorthRoad never = Check.of("road places 2 law 1 seats 1 odds 10;car from 0 to 1 load 9;rider at 0 says 1 home 9;");
    C.due("60 nobody ever comes", never.chance(0, 0), 0);
    C.due("62 nobody ever comes", never.far(0, 0), 0);
    C.due("62 nobody ever comes: 0 / 1", never.far(0, 1), 1);
  }

  private static void acts() {
    NorthRoad x = Check.of(CHANGE);
    C.due("65 none to undo", x.undo(), -5);
    C.due("66 none", x.anew(), 0);
    C.due("63 bar", x.bar(0, 0, 1), 0);
    C.due("63 RIDER 1 gets in", x.aboard(0, 0), 2);
    C.due("63 and through", x.loads(24), 12);
    C.due("63 barred already", x.bar(0, 0, 1), 1);
    C.due("65 an act all the same", x.undo(), 1);
    C.due("65 still barred", x.aboard(0, 0), 2);
    C.due("63 again", x.bar(0, 0, 0), 1);
    C.due("63 he gets in", x.aboard(0, 0), 1);
    C.due("64 tell", x.tell(0, 3), 1);
    C.due("64 tell again", x.tell(0, 0), 3);
    C.due("65 undo tell", x.undo(), 3);
    C.due("65 says", x.rider(0, 1), 3);
    C.due("65 undo tell", x.undo(), 2);
    C.due("65 undo bar", x.undo(), 1);
    C.due("65 barred again", x.aboard(0, 0), 2);
    C.due("66 anew", x.anew(), 1);
    C.due("66 as told", x.aboard(0, 0), 1);
    C.due("63 no such", x.bar(2, 0, 1), -2);
    C.due("63 no such", x.bar(0, 2, 1), -2);
    C.due("63 no such", x.bar(0, 0, 2), -2);
    C.due("63 no such", x.bar(0, 0, -1), -2);
    C.due("64 no such", x.tell(2, 0), -2);
    C.due("64 no such", x.tell(0, 100), -2);
    C.due("64 no such", x.tell(0, -1), -2);
    for (int k = 0; k < 20; k++) {
      C.due("63 act", x.bar(1, 1, 1 - k % 2), k % 2);
      C.due("64 act", x.tell(1, 99 - k), k == 0 ? 4 : 100 - k);
    }
    C.due("63 there were 40", x.bar(0, 0, 1), -5);
    C.due("64 there were 40", x.tell(0, 1), -5);
    C.due("63 -2 ahead of -5", x.bar(2, 0, 1), -2);
    C.due("64 -2 ahead of -5", x.tell(0, 100), -2);
    C.due("69 there were acts", x.rate(0, 1), -5);
    C.due("69 -2 ahead of -5", x.rate(2, 1), -2);
    C.due("65 undo", x.undo(), 39);
    C.due("64 room again", x.tell(1, 5), 81);
    C.due("66 all", x.anew(), 40);
    C.due("66 as told", x.rider(1, 1), 4);
    C.due("69 rate", x.rate(0, 99), 5);
    C.due("69 load", x.car(0, 2), 99);
    C.due("69 loads", x.loads(24), 99);
    C.due("69 brought", x.worth(1), 0);
    C.due("69 no act", x.undo(), -5);
    C.due("69 no such", x.rate(0, 100), -2);
    C.due("69 no such", x.rate(0, -1), -2);
    C.due("69 no such", x.rate(-1, 0), -2);
    C.due("69 back", x.rate(0, 0), 99);
  }

  private static void draws() {
    String six = "road places 3 law 1 seats 4 odds 4;car from 0 to 1 load 10;car from 1 to 2 load 3;"
        + "rider at 0 says 0 home 5;rider at 0 says 0 home 5;rider at 0 says 1 home 5;"
        + "rider at 1 says 2 home 5;rider at 0 says 1 home 5;rider at 0 says 0 home 0;";
    NorthRoad x = Check.of(six);
    // from seed 1 the draws are those of 16838, 5758, 10113, 17515, 31051, 5627
    C.due("67 who does not come", x.drawn(1, 0), 4 + 16);
    C.due("67 loads", x.drawn(1, 1), 3);
    C.due("67 just odds, he comes", Check.of(six.replace("odds 4", "odds 3")).drawn(1, 0), 16);
    C.due("67 none below 0", Check.of(six.replace("odds 4", "odds 0")).drawn(1, 0), 0);
    C.due("67 all below 10", Check.of(six.replace("odds 4", "odds 10")).drawn(1, 0), 63);
    C.due("67 loads with all", x.loads(24), 13);
    C.due("67 no such seed", x.drawn(-1, 0), -2);
    C.due("67 no such seed", x.drawn(2000000001, 0), -2);
    C.due("67 no such what", x.drawn(1, 2), -2);
    C.due("67 the last seed", x.drawn(2000000000, 0) >= 0);
    C.due("68 one day", x.luck(1, 1, 0), 0);
    C.due("68 one day", x.luck(1, 1, 1), 1);
    int days = 0;
    for (int seed = 100; seed < 120; seed++) {
      days += x.drawn(seed, 1) >= 10 ? 1 : 0;
    }
    C.due("68 twenty days", x.luck(100, 20, 0), days);
    C.due("68 some of them", days > 0 && days < 20);
    C.due("68 no such n", x.luck(1, 0, 0), -2);
    C.due("68 no such n", x.luck(1, 21, 0), -2);
    C.due("68 no such CAR", x.luck(1, 1, 2), -2);
    C.due("68 no such seed", x.luck(-1, 1, 0), -2);
    C.due("68 no such seed", x.luck(2000000001, 1, 0), -2);
    C.due("68 from the last seed on", x.luck(2000000000, 20, 0) >= 0);
    NorthRoad e = Check.of(EMPTY);
    C.due("67 nobody", e.drawn(5, 0), 0);
    C.due("67 nobody", e.drawn(5, 1), 9);
    C.due("68 nobody", e.luck(0, 20, 0), 20);
  }

  private static void counts() {
    NorthRoad x = Check.of(NORTH);
    int[] due = {6, 1, 2, 3, 2, 4, 0, 7, 0, 0};
    for (int what = 0; what < 10; what++) {
      C.due("70 count(" + what + ")", x.count(what), due[what]);
    }
    C.due("70 others", x.count(10), -1);
    C.due("70 others", x.count(-1), -1);
    x.tell(0, 1);
    x.feed(0, 0, 0, 0, 0);
    x.row(3, 0, 0);
    C.due("70 acts", x.count(6), 1);
    C.due("70 bytes", x.count(8), 20);
    C.due("70 SLOTS", x.count(9), 1);
  }

  private static void images() {
    NorthRoad x = new NorthRoad();
    C.due("71 no such", x.image(3), -2);
    C.due("71 no such", x.image(-1), -2);
    C.due("72 no such", x.back(3), -2);
    C.due("72 no such", x.back(-1), -2);
    C.due("72 nothing", x.back(0), -6);
    C.due("71 without a ROAD", x.image(2), 0);
    Check.read(x, CHANGE);
    x.rate(0, 6);
    x.tell(0, 3);
    x.bar(0, 1, 1);
    C.due("71 image", x.image(0), 0);
    x.anew();
    x.rate(0, 1);
    C.due("71 another", x.image(1), 0);
    Check.read(x, NORTH);
    Check.put(x, "road");
    x.road();
    C.due("72 back", x.back(0), 0);
    C.due("72 acts", x.count(6), 2);
    C.due("72 loads", x.loads(24), 13);
    C.due("72 LINES", x.count(7), 5);
    C.due("72 the TAPE stays", x.count(8), 4);
    C.due("72 the FAULT stays", x.fault(0), 1);
    C.due("72 undone", x.undo(), 1);
    C.due("72 barred no more", x.bar(0, 1, 0), 0);
    C.due("72 again", x.back(0), 0);
    C.due("72 barred", x.bar(0, 1, 0), 1);
    C.due("72 as it was kept", x.count(6), 3);
    C.due("72 the other", x.back(1), 0);
    C.due("72 load", x.car(0, 2), 1);
    C.due("72 no acts", x.count(6), 0);
    x.row(0, 0, 1);
    C.due("72 without a ROAD", x.back(2), 0);
    C.due("72 no ROAD", x.count(0), 0);
    C.due("72 no ROAD", x.best(), -2);
    C.due("72 SLOTS stay", x.count(9), 1);
  }

  private static void slots() {
    NorthRoad x = Check.of(NORTH);
    C.due("73 no such SLOT", x.row(4, 0, 1), -2);
    C.due("73 no such SLOT", x.row(-1, 0, 1), -2);
    C.due("73 no such WIDTH", x.row(0, 4, 1), -2);
    C.due("73 no such WIDTH", x.row(0, -1, 1), -2);
    C.due("73 above 60", x.row(0, 0, 61), -2);
    C.due("73 below 0", x.row(0, 0, -1), -3);
    C.due("73 the SLOT stays", x.count(9), 0);
    C.due("73 no such SLOT ahead of below 0", x.row(4, 0, -1), -2);
    C.due("73 60", x.row(0, 3, 60), 0);
    C.due("74 the last", x.write(0, 59, 1), 0);
    C.due("74 no such", x.write(0, 60, 1), -7);
    C.due("74 no such", x.write(0, -1, 1), -7);
    C.due("74 nothing", x.write(1, 0, 1), -6);
    C.due("74 no such SLOT", x.write(4, 0, 1), -2);
    fill(x, 0, 0, 0, 10, 0, 0);
    C.due("73 below 0", x.row(0, 1, MIN), -3);
    C.due("73 the SLOT stays", x.fair(0), 1);
    C.due("73 in place of another", x.row(0, 0, 4), 0);
    C.due("73 all 0", x.leave(0), 2);
    fill(x, 0, 0, 5, 5, 5, 5);
    C.due("73 in place of another", x.row(0, 0, 4), 0);
    x.write(0, 1, 10);
    C.due("73 all others 0", x.fair(0), 1);
    int[] widths = {8, 16, 32, 64};
    for (int w = 0; w < 4; w++) {
      long high = w == 3 ? 0 : 1L << widths[w];
      fill(x, 0, w, high, high + 10, -high, 0);
      C.due("74 cut to WIDTH " + w, x.fair(0), 1);
      fill(x, 0, w, 0, 10 + (1L << widths[w] - 1), 0, 0);
      C.due("74 cut to below 0, WIDTH " + w, x.leave(0), 2);
    }
    pastes(x);
  }

  private static void pastes(NorthRoad x) {
    fill(x, 0, 1, 0, 10, 0, 0);
    fill(x, 1, 1, 7, 7, 7, 7, 7);
    C.due("75 no such SLOT", x.paste(4, 0, 0, 0, 0), -2);
    C.due("75 no such SLOT", x.paste(0, 0, -1, 0, 0), -2);
    C.due("75 one has nothing", x.paste(0, 0, 2, 0, 0), -6);
    C.due("75 one has nothing", x.paste(2, 0, 0, 0, 0), -6);
    x.row(3, 2, 9);
    C.due("75 not of one WIDTH", x.paste(0, 0, 3, 0, 1), -8);
    C.due("75 -8 ahead of -7", x.paste(0, -1, 3, 0, 1), -8);
    C.due("75 beyond", x.paste(1, 0, 0, 0, 5), -7);
    C.due("75 beyond", x.paste(1, 4, 0, 0, 2), -7);
    C.due("75 beyond", x.paste(1, 0, 0, 3, 2), -7);
    C.due("75 beyond", x.paste(1, MAX, 0, 0, MAX), -7);
    C.due("75 below 0", x.paste(1, -1, 0, 0, 1), -7);
    C.due("75 below 0", x.paste(1, 0, 0, -1, 1), -7);
    C.due("75 below 0", x.paste(1, 0, 0, 0, -1), -7);
    C.due("75 nothing happens", x.fair(0), 1);
    C.due("75 none", x.paste(1, 5, 0, 4, 0), 0);
    C.due("75 nothing", x.fair(0), 1);
    C.due("75 from one on", x.paste(0, 1, 1, 2, 2), 0);
    x.row(0, 1, 4);
    C.due("75 back", x.paste(1, 1, 0, 0, 3), 0);
    C.due("75 7, 10, 0, 0: all get what they bring", x.leave(0), -1);
    C.due("75 but more", x.fair(0), 0);
    x.write(0, 0, 0);
    C.due("75 10 is at its place", x.fair(0), 1);
    fill(x, 0, 1, 10, 0, 0, 0);
    C.due("75 to its own, as they were", x.paste(0, 0, 0, 1, 3), 0);
    x.write(0, 0, 0);
    C.due("75 0, 10, 0, 0", x.fair(0), 1);
    fill(x, 0, 1, 0, 0, 10, 0);
    C.due("75 to its own, downwards", x.paste(0, 1, 0, 0, 3), 0);
    C.due("75 0, 10, 0, 0", x.fair(0), 1);
  }
}
