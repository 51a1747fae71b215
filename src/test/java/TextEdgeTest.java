import java.util.ArrayList;
import java.util.List;

/**
 * Term I and promises 1 to 7: the last number inside each bound and the first one outside it, each
 * byte, each TOKEN cut off or in another's place, the empty and the full TAPE and ROAD.
 */
public final class TextEdgeTest {
  private static final Check C = new Check();
  private static final int MIN = Integer.MIN_VALUE;
  private static final int MAX = Integer.MAX_VALUE;
  private static final String BASE = "road places 5 law 1 seats 1 odds 0;";
  private static final String CAR = "car from 0 to 1 load 1;";
  private static final String RIDER = "rider at 0 says 0 home 0;";
  private static final String FULL = BASE + CAR + RIDER + CAR + RIDER + RIDER + CAR + RIDER + RIDER + RIDER;

  public static void main(String[] args) {
    newObject();
    boundsOfRoad();
    boundsOfCar();
    boundsOfRider();
    numbering();
    bytesAlone();
    bytesBetween();
    longest();
    tokensCut();
    tokensReplaced();
    tooMany();
    firstByPlace();
    feedFull();
    feedBytes();
    endEdges();
    endInside();
    fullOfOneToken();
    roadEmpty();
    roadFull();
    roadInPlace();
    faultStays();
    faultWhats();
    carWhats();
    riderWhats();
    C.close();
  }

  private static void good(String text, int lines) {
    NorthRoad x = new NorthRoad();
    C.due("4 LINES of " + text, Check.read(x, text), lines);
    C.due("70 LINES of " + text, x.count(7), lines);
    C.due("4 the TAPE is empty then, of " + text, x.count(8), 0);
    C.due("5 no FAULT of " + text, x.fault(0), 0);
    C.due("5 no place of " + text, x.fault(1), -1);
  }

  private static void bad(String text, int fault, int at) {
    NorthRoad x = new NorthRoad();
    C.due("4 a FAULT of " + text, Check.read(x, text), -4);
    C.due("5 the FAULT of " + text, x.fault(0), fault);
    C.due("5 its place of " + text, x.fault(1), at);
    C.due("4 the TAPE stays of " + text, x.count(8), text.length());
    C.due("4 no ROAD still of " + text, x.count(7), 0);
  }

  /** Every number inside the bounds, and those outside it that are next, or far, or wrap around to one inside. */
  private static void bounds(String ahead, String behind, int least, int greatest) {
    int lines = (ahead + behind).length() - (ahead + behind).replace(";", "").length();
    for (int n = least; n <= greatest; n++) {
      good(ahead + n + behind, lines);
    }
    good(ahead + "0000000000000000000000" + least + behind, lines);
    good(ahead + "0" + greatest + behind, lines);
    if (least > 0) {
      bad(ahead + (least - 1) + behind, 2, ahead.length());
      bad(ahead + "0" + behind, 2, ahead.length());
    }
    bad(ahead + (greatest + 1) + behind, 2, ahead.length());
    for (String power : new String[] {"256", "65536", "4294967296", "18446744073709551616", "2147483648"}) {
      java.math.BigInteger wrapped = new java.math.BigInteger(power).add(java.math.BigInteger.valueOf(least));
      bad(ahead + wrapped + behind, 2, ahead.length());
    }
    bad(ahead + "1000" + behind, 2, ahead.length());
    bad(ahead + "1000000000000000000000000000000000000000" + behind, 2, ahead.length());
    bad(ahead + "-1" + behind, 1, ahead.length());
    bad(ahead + "+1" + behind, 1, ahead.length());
  }

  private static void newObject() {
    NorthRoad x = new NorthRoad();
    for (int what = 0; what < 10; what++) {
      C.due("1 count(" + what + ")", x.count(what), 0);
    }
    C.due("1 no CAR", x.car(0, 0), -2);
    C.due("1 no RIDER", x.rider(0, 0), -2);
    C.due("1 no ROAD", x.ends(), -2);
    C.due("1 no IMAGE", x.back(0), -6);
    C.due("1 no row", x.write(0, 0, 0), -6);
    C.due("1 an empty TAPE", x.end(1), -1);
  }

  private static void boundsOfRoad() {
    bounds("road places ", " law 0 seats 1 odds 0;", 2, 12);
    bounds("road places 2 law ", " seats 4 odds 10;", 0, 3);
    bounds("road places 12 law 3 seats ", " odds 0;", 1, 4);
    bounds("road places 5 law 0 seats 1 odds ", ";", 0, 10);
    int[] least = {2, 0, 1, 0};
    int[] greatest = {12, 3, 4, 10};
    NorthRoad x = new NorthRoad();
    C.due("4 the least", Check.read(x, "road places 2 law 0 seats 1 odds 0;"), 1);
    for (int what = 0; what < 4; what++) {
      C.due("I the least, count(" + what + ")", x.count(what), least[what]);
    }
    C.due("4 the greatest", Check.read(x, "road places 12 law 3 seats 4 odds 10;"), 1);
    for (int what = 0; what < 4; what++) {
      C.due("I the greatest, count(" + what + ")", x.count(what), greatest[what]);
    }
  }

  private static void boundsOfCar() {
    String two = "road places 2 law 0 seats 1 odds 0;";
    String twelve = "road places 12 law 0 seats 1 odds 0;";
    bounds(twelve + "car from ", " to 11 load 0;", 0, 10);
    bounds(two + "car from ", " to 1 load 0;", 0, 0);
    bounds(two + "car from 0 to ", " load 0;", 1, 1);
    bounds(twelve + "car from 0 to ", " load 0;", 1, 11);
    bounds(twelve + "car from 3 to ", " load 0;", 4, 11);
    bounds(twelve + "car from 10 to ", " load 0;", 11, 11);
    bounds(twelve + "car from 10 to 11 load ", ";", 0, 99);
    bounds(twelve + CAR + "car from ", " to 11 load 0;" + CAR, 0, 10);
    NorthRoad x = Check.of(twelve + "car from 10 to 11 load 99;car from 0 to 1 load 0;");
    int[] due = {10, 11, 99, 0, 1, 0};
    for (int k = 0; k < 6; k++) {
      C.due("6 the bounds of CARS " + k, x.car(k / 3, k % 3), due[k]);
    }
  }

  private static void boundsOfRider() {
    String two = "road places 2 law 0 seats 1 odds 0;";
    String twelve = "road places 12 law 0 seats 1 odds 0;";
    bounds(twelve + "rider at ", " says 0 home 0;", 0, 11);
    bounds(two + "rider at ", " says 99 home 99;", 0, 1);
    bounds(two + "rider at 1 says ", " home 0;", 0, 99);
    bounds(two + "rider at 0 says 0 home ", ";", 0, 99);
    NorthRoad x = Check.of(two + "rider at 1 says 99 home 99;rider at 0 says 0 home 0;");
    int[] due = {1, 99, 99, 0, 0, 0};
    for (int k = 0; k < 6; k++) {
      C.due("7 the bounds of RIDERS " + k, x.rider(k / 3, k % 3), due[k]);
    }
    C.due("I a home beyond all PLACES", x.home(0), -1);
  }

  private static void numbering() {
    NorthRoad x = Check.of(BASE + "rider at 1 says 11 home 21;car from 0 to 2 load 30;rider at 2 says 12 home 22;"
        + "rider at 3 says 13 home 23;car from 1 to 3 load 31;rider at 4 says 14 home 24;car from 2 to 4 load 32;");
    C.due("I CARS", x.count(4), 3);
    C.due("I RIDERS", x.count(5), 4);
    C.due("I LINES", x.count(7), 8);
    for (int car = 0; car < 3; car++) {
      C.due("I CARS as they stand, from", x.car(car, 0), car);
      C.due("I CARS as they stand, to", x.car(car, 1), car + 2);
      C.due("I CARS as they stand, load", x.car(car, 2), car + 30);
    }
    for (int rider = 0; rider < 4; rider++) {
      C.due("I RIDERS as they stand, at", x.rider(rider, 0), rider + 1);
      C.due("I RIDERS as they stand, says", x.rider(rider, 1), rider + 11);
      C.due("I RIDERS as they stand, home", x.rider(rider, 2), rider + 21);
    }
  }

  private static boolean isBlank(int b) {
    return b == 32 || b == 10;
  }

  /** Each of 256 bytes alone, where a LINE may begin, and where it must go on. */
  private static void bytesAlone() {
    for (int b = 0; b < 256; b++) {
      String one = String.valueOf((char) b);
      if (isBlank(b)) {
        good(one, 0);
        good(BASE + one, 1);
        bad("road" + one, 1, 5);
      } else {
        bad(one, 1, 0);
        bad(BASE + one, 1, 35);
        bad("road" + one, 1, b >= 'a' && b <= 'z' ? 0 : 4);
      }
    }
  }

  /** Each of 256 bytes between a word and its number: it may end, be longer, or stand apart. */
  private static void bytesBetween() {
    for (int b = 0; b < 256; b++) {
      String text = "road places" + (char) b + "5 law 1 seats 1 odds 0;";
      if (isBlank(b) || b == '0') {
        good(text, 1);
      } else if (b >= '1' && b <= '9') {
        bad(text, 2, 11);
      } else {
        bad(text, 1, b >= 'a' && b <= 'z' ? 5 : 11);
      }
    }
  }

  private static void longest() {
    good("road places5law1seats1odds0;car from0to1load1;rider at0says0home0;", 3);
    good("\n\n road \n places \n\n 5 law 1 seats 1 odds 0 \n ; \n", 1);
    bad("ro ad places 5", 1, 0);
    bad("roadplaces 5", 1, 0);
    bad("road places 1 2 law 1", 2, 12);
    bad("road places 5 5", 1, 14);
    bad("road place 5", 1, 5);
    bad("road placesx 5", 1, 5);
    bad("Road places 5", 1, 0);
    bad("road Places 5", 1, 5);
    bad(BASE + "carr from 0", 1, 35);
    bad(BASE + "ca r from 0", 1, 35);
  }

  private static final String[] TOKENS = {"road", "places", "5", "law", "1", "seats", "1", "odds", "0", ";",
    "car", "from", "0", "to", "1", "load", "1", ";", "rider", "at", "0", "says", "0", "home", "0", ";"};

  private static List<String> heads(String blank) {
    List<String> heads = new ArrayList<>();
    StringBuilder s = new StringBuilder();
    for (String token : TOKENS) {
      heads.add(s.toString());
      s.append(token).append(blank);
    }
    heads.add(s.toString());
    return heads;
  }

  private static int linesIn(String text) {
    return text.length() - text.replace(";", "").length();
  }

  /** The end can't stand where a TOKEN must follow; its place is behind all bytes, blanks too. */
  private static void tokensCut() {
    for (String blank : new String[] {" ", "\n", " \n  "}) {
      List<String> heads = heads(blank);
      for (int k = 0; k <= TOKENS.length; k++) {
        String text = heads.get(k);
        if (k == 0 || TOKENS[k - 1].equals(";")) {
          good(text, linesIn(text));
          good(text.trim(), linesIn(text));
        } else {
          bad(text, 1, text.length());
          bad(text.trim(), 1, text.trim().length());
        }
      }
    }
  }

  private static void tokensReplaced() {
    List<String> heads = heads(" ");
    String[] others = {"x", "road", "car", "rider", "places", "from", "at", ";", "1", "?", "A", "\t", "-", "\r"};
    for (int k = 0; k < TOKENS.length; k++) {
      boolean opens = k > 0 && TOKENS[k - 1].equals(";");
      boolean number = Character.isDigit(TOKENS[k].charAt(0));
      String tail = heads.get(TOKENS.length).substring(heads.get(k + 1).length());
      for (String other : others) {
        boolean fits = other.equals(TOKENS[k]) || opens && (other.equals("car") || other.equals("rider"))
            || number && other.equals("1");
        if (!fits) {
          bad(heads.get(k) + other + " " + tail, 1, heads.get(k).length());
        }
      }
      bad(heads.get(k) + "? " + TOKENS[k] + " " + tail, 1, heads.get(k).length());
    }
    bad(BASE + CAR + BASE, 1, 58);
    bad("; " + BASE, 1, 0);
    bad(BASE + ";", 1, 35);
    bad(BASE + CAR + ";" + RIDER, 1, 58);
  }

  private static void tooMany() {
    String three = BASE + CAR + CAR + CAR;
    String six = BASE + RIDER + RIDER + RIDER + RIDER + RIDER + RIDER;
    good(three, 4);
    good(six, 7);
    good(FULL, 10);
    for (String rest : new String[] {"car", "car ", "car;", "car from 0 to 1 load 1;", "car from 9", "car?", "car car"}) {
      bad(three + rest, 3, three.length());
      bad(three + RIDER + rest, 3, three.length() + RIDER.length());
      bad(FULL + rest, 3, FULL.length());
    }
    for (String rest : new String[] {"rider", "rider;", "rider at 0 says 0 home 0;", "rider at 9", "rider?"}) {
      bad(six + rest, 3, six.length());
      bad(six + CAR + rest, 3, six.length() + CAR.length());
      bad(FULL + " " + rest, 3, FULL.length() + 1);
    }
    bad(three + "cars", 1, three.length());
    bad(six + "riders", 1, six.length());
    bad(FULL + "road", 1, FULL.length());
  }

  private static void firstByPlace() {
    bad("road places 13 law 9 ? ", 2, 12);
    bad("road ? places 13", 1, 5);
    bad(BASE + "car from 4 to 3 load 100;", 2, 44);
    bad(BASE + "car from 3 to 3 load 100;", 2, 49);
    bad(BASE + "car from 3 to 4 load 100 ?", 2, 56);
    bad(BASE + "car from 3 to 4 load ? 100", 1, 56);
    bad(BASE + CAR + CAR + "car from 4 to 1 load 1;" + CAR, 2, 90);
    bad(BASE + CAR + CAR + CAR + "rider at 5 says 1 home 1;" + CAR, 2, 113);
    bad(BASE + CAR + CAR + CAR + CAR + "?", 3, 104);
  }

  private static void feedFull() {
    NorthRoad x = new NorthRoad();
    Check.put(x, BASE);
    C.due("3 end", x.end(20), 20);
    C.due("2 behind what it has", x.feed(0x73203120, 0x6f646473, 0x20303b20, 0x20202020, 0x20202020), 40);
    x.end(0);
    Check.put(x, BASE);
    x.end(35);
    for (int k = 1; k <= 33; k++) {
      C.due("2 how many it has", x.feed(0x20202020, 0x0a0a0a0a, 0x20202020, 0x0a0a0a0a, 0x20202020), 35 + 20 * k);
    }
    C.due("2 not above 700: 695 and 20", x.feed(0, 0, 0, 0, 0), -1);
    C.due("2 none come", x.count(8), 695);
    C.due("2 again", x.feed(MIN, MAX, -1, 1, 0), -1);
    C.due("3 end(680)", x.end(680), 680);
    C.due("2 just 700", x.feed(0x20202020, 0x20202020, 0x20202020, 0x20202020, 0x20202020), 700);
    C.due("2 a full TAPE", x.feed(0x20202020, 0x20202020, 0x20202020, 0x20202020, 0x20202020), -1);
    C.due("2 it has 700", x.count(8), 700);
    C.due("2 none came: it is a ROAD still", x.road(), 1);
    C.due("4 empty then", x.count(8), 0);
    C.due("2 room again", x.feed(0, 0, 0, 0, 0), 20);
    C.due("3 end(0)", x.end(0), 0);
    for (int k = 1; k <= 34; k++) {
      x.feed(0x20202020, 0x20202020, 0x20202020, 0x20202020, 0x20202020);
    }
    C.due("2 680", x.count(8), 680);
    C.due("2 the last twenty", x.feed(0x20202020, 0x20202020, 0x20202020, 0x20202020, 0x2020203f), 700);
    C.due("4 a FAULT at the last byte", x.road(), -4);
    C.due("5 place 699", x.fault(1), 699);
    C.due("3 without it", x.end(699), 699);
    C.due("2 699 and 20", x.feed(0, 0, 0, 0, 0), -1);
    C.due("4 blanks alone", x.road(), 0);
  }

  /** Four bytes of each number, the highest first: one byte is strange at each of twenty places. */
  private static void feedBytes() {
    for (int k = 0; k < 20; k++) {
      for (int strange : new int[] {0x3f, 0x80, 0xff, 0x00}) {
        int[] n = {0x20202020, 0x20202020, 0x20202020, 0x20202020, 0x20202020};
        int shift = 24 - 8 * (k % 4);
        n[k / 4] = n[k / 4] & ~(0xff << shift) | strange << shift;
        NorthRoad x = new NorthRoad();
        C.due("2 twenty", x.feed(n[0], n[1], n[2], n[3], n[4]), 20);
        C.due("2 a strange byte", x.road(), -4);
        C.due("2 its place", x.fault(1), k);
        C.due("3 ahead of it", x.end(k), k);
        C.due("3 it is gone", x.road(), 0);
      }
    }
  }

  private static void endEdges() {
    NorthRoad x = new NorthRoad();
    C.due("3 end(0) of an empty TAPE", x.end(0), 0);
    C.due("3 end(1) of an empty TAPE", x.end(1), -1);
    Check.put(x, BASE + "?????");
    int[] refused = {41, 700, 701, MAX, -1, -2, MIN};
    for (int n : refused) {
      C.due("3 end(" + n + ")", x.end(n), -1);
      C.due("3 nothing happens", x.count(8), 40);
    }
    C.due("3 all of them", x.end(40), 40);
    C.due("3 still all", x.count(8), 40);
    C.due("3 all but one", x.end(39), 39);
    C.due("3 not so many any more", x.end(40), -1);
    C.due("3 the first 35 alone", x.end(35), 35);
    C.due("4 they are a ROAD", x.road(), 1);
    C.due("3 empty behind road", x.end(1), -1);
    Check.put(x, BASE);
    C.due("3 none", x.end(0), 0);
    C.due("4 no ROAD", x.road(), 0);
    Check.put(x, BASE + "?");
    x.end(35);
    C.due("2 behind the first n", x.feed(0x20636172, 0x2066726f, 0x6d203020, 0x746f2031, 0x206c6f61), 55);
    C.due("2 and more", x.feed(0x6420373b, 0x20202020, 0x20202020, 0x20202020, 0x20202020), 75);
    C.due("4 two LINES", x.road(), 2);
    C.due("6 load", x.car(0, 2), 7);
  }

  /** Bytes behind the end are none of the TAPE's, though they were. */
  private static void endInside() {
    String text = BASE + "car from 0 to 1 load 12;" + RIDER;
    for (int n = 0; n <= text.length(); n++) {
      NorthRoad cut = new NorthRoad();
      Check.put(cut, text);
      cut.end(n);
      NorthRoad fresh = new NorthRoad();
      Check.put(fresh, text.substring(0, n));
      C.due("3 the first " + n, cut.road(), fresh.road());
      C.due("3 FAULT of the first " + n, cut.fault(0), fresh.fault(0));
      C.due("3 its place of the first " + n, cut.fault(1), fresh.fault(1));
    }
    NorthRoad number = new NorthRoad();
    Check.put(number, "road places 12 law");
    C.due("3 between 1 and 2", number.end(13), 13);
    C.due("4 1 is out of its bounds", number.road(), -4);
    C.due("5 FAULT 2", number.fault(0), 2);
    NorthRoad word = new NorthRoad();
    Check.put(word, "road places 12");
    C.due("3 between e and s", word.end(10), 10);
    C.due("4 place is no word there", word.road(), -4);
    C.due("5 at 5", word.fault(1), 5);
    Check.put(word, "road places");
    C.due("3 just the word", word.end(4), 4);
    C.due("4 the end can't stand there", word.road(), -4);
    C.due("5 at 4", word.fault(1), 4);
  }

  private static void fullOfOneToken() {
    String letters = "a".repeat(700);
    String roads = "road".repeat(175);
    String digits = "road places " + "0".repeat(687) + "5";
    bad(letters, 1, 0);
    bad(roads, 1, 0);
    bad("9".repeat(700), 1, 0);
    bad(digits, 1, 700);
    bad("road places " + "9".repeat(688), 2, 12);
    bad(";".repeat(700), 1, 0);
    bad("\n".repeat(699) + "r", 1, 699);
    good(" ".repeat(700), 0);
  }

  private static void roadEmpty() {
    NorthRoad x = new NorthRoad();
    C.due("4 an empty TAPE", x.road(), 0);
    C.due("5 no FAULT", x.fault(0), 0);
    C.due("5 no place", x.fault(1), -1);
    Check.read(x, FULL);
    C.due("63 an act", x.bar(0, 0, 1), 0);
    C.due("4 an empty TAPE in place of a ROAD", x.road(), 0);
    for (int what = 0; what < 10; what++) {
      C.due("4 there is none then, count(" + what + ")", x.count(what), 0);
    }
    C.due("4 no CAR", x.car(0, 0), -2);
    C.due("4 no RIDER", x.rider(0, 0), -2);
    C.due("4 no ROAD", x.undo(), -2);
    Check.read(x, FULL);
    C.due("4 blanks alone in place of a ROAD", Check.read(x, " \n "), 0);
    C.due("4 no ROAD", x.ends(), -2);
  }

  private static void roadFull() {
    String widest = "road places 12 law 3 seats 4 odds 10;";
    for (int k = 0; k < 3; k++) {
      widest += "car from 10 to 11 load 99;";
    }
    for (int k = 0; k < 6; k++) {
      widest += "rider at 11 says 99 home 99;";
    }
    good(widest, 10);
    StringBuilder long700 = new StringBuilder(widest);
    while (long700.length() < 699) {
      long700.insert(5, long700.length() % 2 == 0 ? ' ' : '\n');
    }
    good(long700.toString(), 10);
    good(long700.insert(5, '\n').toString(), 10);
    C.due("2 a text of 700", long700.length(), 700);
    long700.setCharAt(699, '?');
    bad(long700.toString(), 1, 699);
    long700.setCharAt(699, ' ');
    bad(long700.toString(), 1, 700);
  }

  private static void roadInPlace() {
    NorthRoad x = Check.of(FULL);
    x.tell(0, 5);
    x.bar(0, 1, 1);
    x.row(2, 1, 5);
    x.image(1);
    C.due("4 another", Check.read(x, BASE + RIDER), 2);
    C.due("4 nothing done", x.count(6), 0);
    C.due("4 no CARS any more", x.car(0, 0), -2);
    C.due("4 one RIDER", x.rider(1, 0), -2);
    C.due("4 SLOTS have what they had", x.count(9), 1);
    C.due("4 five numbers", State.sizeOf(x, 2), 5);
    C.due("4 IMAGES have what they had", x.back(1), 0);
    C.due("72 acts", x.count(6), 2);
    C.due("72 says", x.rider(0, 1), 5);
    C.due("4 the same once more, nothing done", Check.read(x, FULL), 10);
    C.due("4 he says what was told", x.rider(0, 1), 0);
    C.due("4 nobody is barred", x.bar(0, 1, 0), 0);
  }

  private static void faultStays() {
    NorthRoad x = Check.of(FULL);
    x.rate(1, 77);
    x.tell(0, 5);
    x.bar(0, 1, 1);
    Check.put(x, BASE + CAR + "car from 4");
    String before = State.of(x);
    C.due("4 a FAULT", x.road(), -4);
    C.due("5 out of its bounds", x.fault(0), 2);
    C.due("5 place", x.fault(1), 67);
    C.same("4 all stays", before.replaceFirst("fault 0 -1", "fault 2 67"), State.of(x));
    C.due("4 the TAPE too", x.count(8), 68);
    C.due("4 once more", x.road(), -4);
    C.due("3 what stood ahead of it", x.end(58), 58);
    C.due("4 is a ROAD", x.road(), 2);
    C.due("5 no FAULT any more", x.fault(0), 0);
    C.due("5 no place any more", x.fault(1), -1);
  }

  private static void faultWhats() {
    NorthRoad x = new NorthRoad();
    int[] others = {2, 3, -1, MIN, MAX};
    C.due("5 ahead of any, what 0", x.fault(0), 0);
    C.due("5 ahead of any, what 1", x.fault(1), -1);
    for (int what : others) {
      C.due("5 ahead of any, another what", x.fault(what), -1);
    }
    Check.read(x, "?");
    C.due("5 what 0", x.fault(0), 1);
    C.due("5 what 1, place 0", x.fault(1), 0);
    for (int what : others) {
      C.due("5 another what", x.fault(what), -1);
    }
    x.feed(0x726f6164, 0, 0, 0, 0);
    x.end(0);
    x.image(0);
    x.back(0);
    C.due("5 of the latest road(), still", x.fault(0), 1);
    C.due("4 road() without a FAULT", x.road(), 0);
    C.due("5 what 0 without", x.fault(0), 0);
    C.due("5 what 1 without", x.fault(1), -1);
    for (int what : others) {
      C.due("5 another what, without", x.fault(what), -1);
    }
  }

  private static void carWhats() {
    NorthRoad none = Check.of(BASE + RIDER);
    NorthRoad one = Check.of(BASE + "car from 1 to 4 load 9;");
    NorthRoad three = Check.of(FULL);
    C.due("6 no CAR at all", none.car(0, 0), -2);
    C.due("6 what 0", one.car(0, 0), 1);
    C.due("6 what 1", one.car(0, 1), 4);
    C.due("6 what 2", one.car(0, 2), 9);
    for (int car : new int[] {1, 2, 3, -1, MIN, MAX}) {
      C.due("6 no CAR " + car, one.car(car, 0), -2);
    }
    C.due("6 CAR 2", three.car(2, 1), 1);
    C.due("6 no CAR 3", three.car(3, 1), -2);
    for (int what : new int[] {3, -1, MIN, MAX}) {
      C.due("6 no what " + what, one.car(0, what), -2);
    }
  }

  private static void riderWhats() {
    NorthRoad none = Check.of(BASE + CAR);
    NorthRoad one = Check.of(BASE + "rider at 4 says 8 home 9;");
    NorthRoad six = Check.of(FULL);
    C.due("7 no RIDER at all", none.rider(0, 0), -2);
    C.due("7 what 0", one.rider(0, 0), 4);
    C.due("7 what 1", one.rider(0, 1), 8);
    C.due("7 what 2", one.rider(0, 2), 9);
    for (int rider : new int[] {1, 5, 6, -1, MIN, MAX}) {
      C.due("7 no RIDER " + rider, one.rider(rider, 0), -2);
    }
    C.due("7 RIDER 5", six.rider(5, 2), 0);
    C.due("7 no RIDER 6", six.rider(6, 2), -2);
    for (int what : new int[] {3, -1, MIN, MAX}) {
      C.due("7 no what " + what, one.rider(0, what), -2);
    }
    one.tell(0, 99);
    C.due("7 says as now", one.rider(0, 1), 99);
    one.undo();
    C.due("7 says as now", one.rider(0, 1), 8);
  }
}
