import java.util.ArrayList;
import java.util.List;

/** What the tests of the project share: feeding a text, and counting answers that are not due. */
final class Check {
  private final List<String> wrong = new ArrayList<>();
  private int asked = 0;

  void due(String call, long got, long want) {
    asked++;
    if (got != want) {
      wrong.add(call + " answered " + got + ", due is " + want);
    }
  }

  void due(String call, boolean holds) {
    due(call, holds ? 1 : 0, 1);
  }

  boolean any() {
    return !wrong.isEmpty();
  }

  void close() {
    for (int i = 0; i < Math.min(40, wrong.size()); i++) {
      System.out.println(wrong.get(i));
    }
    System.out.println(asked + " answers asked, " + wrong.size() + " not as due");
    if (asked == 0 || !wrong.isEmpty()) {
      System.exit(1);
    }
  }

  /** The five numbers of feed for the twenty bytes from one on; blanks behind the text. */
  static int[] numbers(byte[] text, int from) {
    int[] five = new int[5];
    for (int i = 0; i < 20; i++) {
      int b = from + i < text.length ? text[from + i] & 0xff : 32;
      five[i / 4] = five[i / 4] << 8 | b;
    }
    return five;
  }

  static byte[] bytes(String text) {
    return text.getBytes(java.nio.charset.StandardCharsets.ISO_8859_1);
  }

  /** Puts a text, and it alone, on the TAPE. */
  static void put(NorthRoad x, String text) {
    x.end(0);
    byte[] b = bytes(text);
    for (int from = 0; from < b.length; from += 20) {
      int[] n = numbers(b, from);
      x.feed(n[0], n[1], n[2], n[3], n[4]);
    }
    x.end(b.length);
  }

  static int read(NorthRoad x, String text) {
    put(x, text);
    return x.road();
  }

  /** A new row of a SLOT with these numbers. */
  void fill(NorthRoad x, int slot, int width, long... numbers) {
    due("73 row", x.row(slot, width, numbers.length), 0);
    for (int i = 0; i < numbers.length; i++) {
      due("74 write", x.write(slot, i, numbers[i]), 0);
    }
  }

  /** Says of a call that ought to have changed nothing what it did change. */
  void same(String call, String before, String after) {
    asked++;
    if (!before.equals(after)) {
      wrong.add(call + " changed " + before + " to " + after);
    }
  }

  static NorthRoad of(String text) {
    NorthRoad x = new NorthRoad();
    read(x, text);
    return x;
  }
}
