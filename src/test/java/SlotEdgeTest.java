/**
 * Promises 73 to 75: each SLOT, each WIDTH, each length from 0 to 60, numbers at the ends of what a
 * WIDTH holds, and every way to paste into a short row.
 */
public final class SlotEdgeTest {
  private static final Check C = new Check();
  private static final int MIN = Integer.MIN_VALUE;
  private static final int MAX = Integer.MAX_VALUE;
  private static final int BELOW = -1;
  private static final int ABOVE = 100;

  /** What RIDER 0 brings is the CAR's load, which rate() sets: so a number of a row can be told from others. */
  private static final String ONE = "road places 2 law 1 seats 1 odds 0;car from 0 to 1 load 50;rider at 0 says 1 home 9;";

  public static void main(String[] args) {
    rowLengths();
    rowRefused();
    rowStays();
    rowInPlace();
    writePlaces();
    writeRefused();
    writeCut();
    writeOthers();
    pasteAllWays();
    pasteOwn();
    pasteRefused();
    pasteOrder();
    pasteFar();
    pasteWidths();
    C.close();
  }

  /** Number i of a SLOT's row, if it is 0 .. 99, else BELOW or ABOVE; SLOT 3 is used for it. */
  private static int number(NorthRoad x, int slot, int i, int width) {
    x.row(3, width, 1);
    x.paste(slot, i, 3, 0, 1);
    int known = -1;
    for (int step = 64; step > 0; step /= 2) {
      if (known + step <= 99) {
        x.rate(0, known + step);
        known += x.leave(3) == -1 ? step : 0;
      }
    }
    x.rate(0, Math.max(0, known));
    return known >= 0 && x.fair(3) == 0 ? ABOVE : known;
  }

  private static void numbers(String what, NorthRoad x, int slot, int width, int... due) {
    C.due("73 as many, " + what, State.sizeOf(x, slot), due.length);
    for (int i = 0; i < due.length; i++) {
      C.due(what + ", number " + i, number(x, slot, i, width), due[i]);
    }
  }

  private static void rowLengths() {
    for (int slot = 0; slot < 4; slot++) {
      for (int width = 0; width < 4; width++) {
        for (int n = 0; n <= 60; n++) {
          NorthRoad x = new NorthRoad();
          C.due("73 row", x.row(slot, width, n), 0);
          C.due("73 so many", State.sizeOf(x, slot), n);
          C.due("70 one SLOT", x.count(9), 1);
        }
      }
    }
  }

  private static void rowRefused() {
    NorthRoad x = new NorthRoad();
    for (int none : new int[] {-1, 4, MIN, MAX}) {
      C.due("73 no SLOT " + none, x.row(none, 0, 1), -2);
      C.due("73 no SLOT, ahead of below 0", x.row(none, 0, -1), -2);
      C.due("73 no WIDTH " + none, x.row(0, none, 1), -2);
      C.due("73 no WIDTH, ahead of below 0", x.row(0, none, -1), -2);
      C.due("73 no WIDTH, of none", x.row(0, none, 0), -2);
    }
    for (int n : new int[] {61, 62, 1000, MAX}) {
      C.due("73 above 60: " + n, x.row(0, 0, n), -2);
    }
    for (int n : new int[] {-1, -60, MIN}) {
      C.due("73 below 0: " + n, x.row(0, 0, n), -3);
    }
    C.due("73 no SLOT has a row", x.count(9), 0);
    C.due("73 60", x.row(0, 0, 60), 0);
    C.due("73 0", x.row(3, 3, 0), 0);
    C.due("73 without a ROAD too", x.count(9), 2);
  }

  private static void rowStays() {
    NorthRoad x = Check.of(ONE);
    C.fill(x, 0, 1, 11, 22, 33);
    C.due("73 below 0", x.row(0, 2, -1), -3);
    C.due("73 below 0", x.row(0, 1, MIN), -3);
    C.due("73 above 60", x.row(0, 1, 61), -2);
    C.due("73 no WIDTH", x.row(0, 4, 3), -2);
    C.due("73 no SLOT", x.row(4, 1, 3), -2);
    numbers("73 the SLOT stays", x, 0, 1, 11, 22, 33);
    C.due("73 of its WIDTH", x.paste(0, 0, 3, 0, 1), 0);
  }

  private static void rowInPlace() {
    NorthRoad x = Check.of(ONE);
    C.fill(x, 0, 0, 11, 22, 33, 44);
    C.due("73 the same again", x.row(0, 0, 4), 0);
    numbers("73 all 0", x, 0, 0, 0, 0, 0, 0);
    C.fill(x, 0, 0, 11, 22, 33, 44);
    C.due("73 a shorter one", x.row(0, 0, 2), 0);
    numbers("73 all 0", x, 0, 0, 0, 0);
    C.due("73 a longer one", x.row(0, 0, 5), 0);
    numbers("73 all 0", x, 0, 0, 0, 0, 0, 0, 0);
    NorthRoad y = Check.of(ONE);
    C.fill(y, 0, 0, 11, 22);
    C.due("73 another WIDTH", y.row(0, 3, 2), 0);
    numbers("73 all 0", y, 0, 3, 0, 0);
    C.due("73 none", y.row(0, 3, 0), 0);
    C.due("73 it has a row still", y.write(0, 0, 1), -7);
    C.fill(y, 1, 1, 7, 8);
    y.row(0, 1, 2);
    numbers("73 another SLOT stays", y, 1, 1, 7, 8);
  }

  private static void writePlaces() {
    for (int n = 0; n <= 60; n += n < 4 ? 1 : 14) {
      NorthRoad x = Check.of(ONE);
      x.row(0, 2, n);
      for (int i : new int[] {-1, n, n + 1, MIN, MAX}) {
        C.due("74 no number " + i + " of " + n, x.write(0, i, 9), -7);
      }
      if (n > 0) {
        C.due("74 the first", x.write(0, 0, 42), 0);
        C.due("74 the last", x.write(0, n - 1, 43), 0);
        C.due("74 the last", number(x, 0, n - 1, 2), 43);
        C.due("74 the first", number(x, 0, 0, 2), n == 1 ? 43 : 42);
      }
      if (n > 2) {
        C.due("74 the others stay", number(x, 0, 1, 2), 0);
        C.due("74 the others stay", number(x, 0, n - 2, 2), 0);
      }
    }
  }

  private static void writeRefused() {
    NorthRoad x = Check.of(ONE);
    for (int none : new int[] {-1, 4, MIN, MAX}) {
      C.due("74 no SLOT " + none, x.write(none, 0, 0), -2);
      C.due("74 no SLOT, ahead of no number", x.write(none, -1, 0), -2);
    }
    for (int slot = 0; slot < 4; slot++) {
      C.due("74 it has nothing", x.write(slot, 0, 0), -6);
      C.due("74 it has nothing, ahead of no number", x.write(slot, -1, 0), -6);
    }
    x.row(0, 0, 0);
    C.due("74 a row of none", x.write(0, 0, 0), -7);
    C.fill(x, 0, 0, 5, 6);
    x.write(0, 2, 9);
    x.write(0, -1, 9);
    x.write(1, 0, 9);
    x.write(4, 0, 9);
    numbers("74 refused, all stays", x, 0, 0, 5, 6);
    C.due("74 it has nothing still", x.write(1, 0, 9), -6);
  }

  private static void cut(int width, long v, int due) {
    NorthRoad x = Check.of(ONE);
    C.fill(x, 0, width, 0, v, 0);
    numbers("74 " + v + " cut to WIDTH " + width, x, 0, width, 0, due, 0);
  }

  private static void writeCut() {
    int[] bits = {8, 16, 32, 64};
    for (int width = 0; width < 4; width++) {
      long half = 1L << bits[width] - 1;
      cut(width, 0, 0);
      cut(width, 99, 99);
      cut(width, 100, ABOVE);
      cut(width, -1, BELOW);
      cut(width, half - 1, ABOVE);
      cut(width, half, BELOW);
      cut(width, half + 50, BELOW);
      cut(width, -half, BELOW);
      cut(width, -half - 1, ABOVE);
      cut(width, Long.MAX_VALUE, width == 3 ? ABOVE : BELOW);
      cut(width, Long.MIN_VALUE, width == 3 ? BELOW : 0);
      cut(width, Long.MIN_VALUE + 50, width == 3 ? BELOW : 50);
      if (width < 3) {
        long whole = 2 * half;
        cut(width, whole - 1, BELOW);
        cut(width, whole, 0);
        cut(width, whole + 50, 50);
        cut(width, -whole, 0);
        cut(width, -whole + 50, 50);
        cut(width, whole * 5 + 99, 99);
        cut(width + 1, whole + 50, ABOVE);
        cut(width + 1, -whole + 50, BELOW);
      }
    }
  }

  private static void writeOthers() {
    NorthRoad x = Check.of(ONE);
    C.fill(x, 0, 0, 1, 2, 3);
    C.fill(x, 1, 0, 4, 5, 6);
    C.due("74 write", x.write(0, 1, 77), 0);
    C.due("74 again", x.write(0, 1, 78), 0);
    numbers("74 this number alone", x, 0, 0, 1, 78, 3);
    numbers("74 this SLOT alone", x, 1, 0, 4, 5, 6);
  }

  private static int[] range(int first, int size) {
    int[] row = new int[size];
    for (int i = 0; i < size; i++) {
      row[i] = first + i;
    }
    return row;
  }

  private static NorthRoad with(int slot, int width, int[] row, NorthRoad x) {
    x.row(slot, width, row.length);
    for (int i = 0; i < row.length; i++) {
      x.write(slot, i, row[i]);
    }
    return x;
  }

  private static void pasteAllWays() {
    for (int i = -1; i <= 4; i++) {
      for (int k = -1; k <= 5; k++) {
        for (int n = -1; n <= 5; n++) {
          int[] from = range(11, 3);
          int[] to = range(51, 4);
          NorthRoad x = with(1, 1, to, with(0, 1, from, Check.of(ONE)));
          boolean holds = i >= 0 && k >= 0 && n >= 0 && i + n <= 3 && k + n <= 4;
          String call = "75 paste(0, " + i + ", 1, " + k + ", " + n + ")";
          C.due(call, x.paste(0, i, 1, k, n), holds ? 0 : -7);
          for (int j = 0; holds && j < n; j++) {
            to[k + j] = from[i + j];
          }
          numbers(call, x, 1, 1, to);
          numbers(call + ", where from", x, 0, 1, from);
        }
      }
    }
  }

  /** As they were: also where they are put over themselves. */
  private static void pasteOwn() {
    for (int i = 0; i <= 4; i++) {
      for (int k = 0; k <= 4; k++) {
        for (int n = 0; n <= 4; n++) {
          int[] was = range(31, 4);
          int[] due = was.clone();
          NorthRoad x = with(2, 0, was, Check.of(ONE));
          boolean holds = i + n <= 4 && k + n <= 4;
          String call = "75 paste(2, " + i + ", 2, " + k + ", " + n + ")";
          C.due(call, x.paste(2, i, 2, k, n), holds ? 0 : -7);
          for (int j = 0; holds && j < n; j++) {
            due[k + j] = was[i + j];
          }
          numbers(call, x, 2, 0, due);
        }
      }
    }
  }

  private static void pasteRefused() {
    NorthRoad x = Check.of(ONE);
    C.fill(x, 0, 1, 1, 2, 3);
    C.fill(x, 1, 1, 4, 5);
    for (int none : new int[] {-1, 4, MIN, MAX}) {
      C.due("75 no SLOT " + none, x.paste(none, 0, 0, 0, 1), -2);
      C.due("75 no SLOT " + none, x.paste(0, 0, none, 0, 1), -2);
      C.due("75 no SLOT, twice", x.paste(none, 0, none, 0, 1), -2);
      C.due("75 no SLOT, ahead of nothing", x.paste(2, 0, none, 0, 1), -2);
      C.due("75 no SLOT, ahead of nothing", x.paste(none, 0, 2, 0, 1), -2);
    }
    C.due("75 one has nothing", x.paste(0, 0, 2, 0, 1), -6);
    C.due("75 one has nothing", x.paste(2, 0, 0, 0, 1), -6);
    C.due("75 both have nothing", x.paste(2, 0, 3, 0, 1), -6);
    C.due("75 its own, and it has nothing", x.paste(2, 0, 2, 0, 0), -6);
    numbers("75 nothing happens", x, 0, 1, 1, 2, 3);
    numbers("75 nothing happens", x, 1, 1, 4, 5);
  }

  private static void pasteOrder() {
    NorthRoad x = Check.of(ONE);
    C.fill(x, 0, 1, 1, 2, 3);
    x.row(1, 2, 3);
    C.due("75 not of one WIDTH", x.paste(0, 0, 1, 0, 1), -8);
    C.due("75 not of one WIDTH, of none", x.paste(0, 0, 1, 0, 0), -8);
    C.due("75 not of one WIDTH, the other way round", x.paste(1, 0, 0, 0, 3), -8);
    C.due("75 -8 ahead of -7: beyond", x.paste(0, 0, 1, 0, 4), -8);
    C.due("75 -8 ahead of -7: below 0", x.paste(0, -1, 1, -1, -1), -8);
    C.due("75 -6 ahead of -7", x.paste(0, 0, 2, 0, 4), -6);
    C.due("75 -6 ahead of -7: below 0", x.paste(2, -1, 0, 0, -1), -6);
    C.due("75 -2 ahead of all", x.paste(4, -1, 0, -1, -1), -2);
    numbers("75 nothing happens", x, 1, 2, 0, 0, 0);
    numbers("75 nothing happens", x, 0, 1, 1, 2, 3);
  }

  private static void pasteFar() {
    NorthRoad x = Check.of(ONE);
    C.fill(x, 0, 1, 1, 2, 3);
    C.fill(x, 1, 1, 4, 5, 6);
    int[] far = {MAX, MAX - 1, MIN, MIN + 1};
    for (int f : far) {
      C.due("75 from " + f, x.paste(0, f, 1, 0, 1), -7);
      C.due("75 to " + f, x.paste(0, 0, 1, f, 1), -7);
      C.due("75 so many: " + f, x.paste(0, 0, 1, 0, f), -7);
      C.due("75 none from " + f, x.paste(0, f, 1, 0, 0), -7);
      for (int g : far) {
        C.due("75 from " + f + ", so many: " + g, x.paste(0, f, 1, 0, g), -7);
        C.due("75 to " + f + ", so many: " + g, x.paste(0, 0, 1, f, g), -7);
        C.due("75 from and to " + f + ", so many: " + g, x.paste(0, f, 1, f, g), -7);
      }
    }
    C.due("75 1 and the greatest", x.paste(0, 1, 1, 0, MAX), -7);
    C.due("75 1 and the greatest", x.paste(0, 0, 1, 1, MAX), -7);
    numbers("75 nothing happens", x, 0, 1, 1, 2, 3);
    numbers("75 nothing happens", x, 1, 1, 4, 5, 6);
  }

  private static void pasteWidths() {
    for (int width = 0; width < 4; width++) {
      NorthRoad x = Check.of(ONE);
      x.row(0, width, 60);
      x.row(1, width, 60);
      x.write(0, 0, 7);
      x.write(0, 59, -1);
      C.due("75 all sixty", x.paste(0, 0, 1, 0, 60), 0);
      C.due("75 the first", number(x, 1, 0, width), 7);
      C.due("75 the last, below 0 still", number(x, 1, 59, width), BELOW);
      C.due("75 sixty and one", x.paste(0, 0, 1, 0, 61), -7);
      C.due("75 sixty from 1 on", x.paste(0, 1, 1, 0, 60), -7);
      for (int other = 0; other < 4; other++) {
        x.row(2, other, 60);
        C.due("75 WIDTHS " + width + " and " + other, x.paste(0, 0, 2, 0, 1), width == other ? 0 : -8);
      }
    }
  }
}
