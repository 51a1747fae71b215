import java.lang.reflect.Method;
import java.lang.reflect.Modifier;
import java.util.ArrayList;
import java.util.Arrays;
import java.util.List;

/**
 * Every call of the face with each argument at the ends of its bounds and beyond them: what is refused,
 * by which number, that nothing is changed by it, and that calls which ask change nothing at all. The
 * same calls in other states, with all arguments at such ends at once, are held against the model.
 */
public final class RefusalTest {
  private static final Check C = new Check();
  private static final int MIN = Integer.MIN_VALUE;
  private static final int MAX = Integer.MAX_VALUE;

  private static final String FULL = "road places 7 law 1 seats 2 odds 3;car from 0 to 2 load 10;car from 2 to 6 load 30;"
      + "car from 1 to 5 load 5;rider at 0 says 3 home 2;rider at 0 says 6 home 6;rider at 2 says 3 home 3;"
      + "rider at 1 says 9 home 50;rider at 4 says 1 home 1;rider at 5 says 9 home 5;";

  /**
   * A call, its arguments' kinds, and by what it is refused, as the document has them: c CAR, r RIDER,
   * s STEP, p PLACE, l SLOT, w what 0 and 1, t what 0 to 2, b 0 and 1, a LAW, n 0 .. 99, d seed, m 1 .. 20,
   * k IMAGE. Behind them whether it asks alone.
   */
  private static final String[] CALLS = {
    "car ct -2 asks", "rider rt -2 asks", "at cs -2 asks", "aboard cs -2 asks", "runs cs -2 asks", "arrives c -2 asks",
    "stands c -2 asks", "stuck c -2 asks", "fullest c -2 asks", "within rs -2 asks", "place rs -2 asks", "home r -2 asks",
    "cars r -2 asks", "rides r -2 asks", "waits r -2 asks", "waiting ps -2 asks", "done s -2 asks", "loads s -2 asks",
    "homes s -2 asks", "halt . -2 asks", "halted . -2 asks", "crowd s -2 asks", "meets rr -2 asks", "alone c -2 asks",
    "empty s -2 asks", "further cs -2 asks", "idle s -2 asks", "ends . -2 asks", "lead s -2 asks", "missed r -2 asks",
    "best . -2 asks", "plan r -2 asks", "ways . -2 asks", "cover . -2 asks", "needed . -2 asks", "pair . -2 asks",
    "worth r -1000 asks", "stand r -2 asks", "sign r -2 asks", "signs r -2 asks", "share rw -2 asks", "fair l -2 asks",
    "leave l -2 asks", "house lr -2 asks", "least lr -2 asks", "most lr -2 asks", "ask lr -2 asks", "leaves lr -2 asks",
    "odds lrw -2 asks", "laws l -2 asks", "by a -2 asks", "law . -2 asks", "rests rr -2 asks", "gets rrbb -1000 asks",
    "chance cw -2 asks", "mean w -2 asks", "far cw -2 asks", "bar crb -2 acts", "tell rn -2 acts", "undo . -2 acts",
    "anew . -2 acts", "drawn dw -2 asks", "luck dmc -2 asks", "rate cn -2 acts", "image k -2 acts", "back k -2 acts"};

  private static String text;
  private static int places;
  private static int cars;
  private static int riders;

  public static void main(String[] args) throws Exception {
    String riderless = "road places 3 law 3 seats 1 odds 0;car from 0 to 1 load 1;";
    String carless = "road places 4 law 0 seats 4 odds 10;rider at 3 says 0 home 9;";
    String small = "road places 2 law 2 seats 1 odds 5;car from 0 to 1 load 0;rider at 0 says 1 home 9;rider at 1 says 0 home 0;";
    String large = "road places 12 law 1 seats 4 odds 1;car from 0 to 11 load 99;car from 10 to 11 load 9;"
        + "rider at 0 says 99 home 99;".repeat(5);
    all(large, 12, 2, 5);
    all(small, 2, 1, 2);
    all(carless, 4, 0, 1);
    all(riderless, 3, 1, 0);
    all("road places 2 law 1 seats 1 odds 0;", 2, 0, 0);
    all(FULL, 7, 3, 6);
    for (String call : CALLS) {
      String[] parts = call.split(" ");
      withoutRoad(method(parts[0]), parts[1].replace(".", ""), Integer.parseInt(parts[2]));
    }
    C.due("calls that may be refused for want of a ROAD", CALLS.length, 66);
    extremes();
    C.close();
  }

  private static void all(String road, int manyPlaces, int manyCars, int manyRiders) throws Exception {
    text = road;
    places = manyPlaces;
    cars = manyCars;
    riders = manyRiders;
    for (String call : CALLS) {
      String[] parts = call.split(" ");
      Method method = method(parts[0]);
      String kinds = parts[1].replace(".", "");
      C.due("arguments of " + parts[0], method.getParameterCount(), kinds.length());
      int refusal = Integer.parseInt(parts[2]);
      if (hasAny(method, kinds)) {
        insides(method, kinds, refusal, parts[3].equals("asks"));
      } else {
        outsides(method, kinds, refusal, -1, 0);
      }
      for (int i = 0; i < kinds.length(); i++) {
        int[] inside = bounds(kinds.charAt(i));
        for (int outside : new int[] {inside[0] - 1, inside[1] + 1, MIN, MAX}) {
          outsides(method, kinds, refusal, i, outside);
        }
      }
    }
  }

  /** Whether there are CARS and RIDERS enough for a call that is not refused. */
  private static boolean hasAny(Method m, String kinds) {
    boolean two = m.getName().equals("rests") || m.getName().equals("gets");
    return (cars > 0 || !kinds.contains("c")) && (riders > (two ? 1 : 0) || !kinds.contains("r"));
  }

  private static Method method(String name) {
    for (Method m : NorthRoad.class.getDeclaredMethods()) {
      if (m.getName().equals(name) && Modifier.isPublic(m.getModifiers())) {
        return m;
      }
    }
    throw new IllegalStateException(name);
  }

  private static int call(Method m, NorthRoad x, long... a) throws Exception {
    Object[] given = new Object[a.length];
    for (int i = 0; i < a.length; i++) {
      given[i] = m.getParameterTypes()[i] == long.class ? (Object) a[i] : (Object) (int) a[i];
    }
    return (int) m.invoke(x, given);
  }

  /** The first number inside a kind's bounds, and the last. */
  private static int[] bounds(char kind) {
    switch (kind) {
      case 'c': return new int[] {0, cars - 1};
      case 'r': return new int[] {0, riders - 1};
      case 's': return new int[] {0, 24};
      case 'p': return new int[] {0, places - 1};
      case 'l': return new int[] {0, 3};
      case 'w': return new int[] {0, 1};
      case 't': return new int[] {0, 2};
      case 'b': return new int[] {0, 1};
      case 'a': return new int[] {0, 3};
      case 'n': return new int[] {0, 99};
      case 'd': return new int[] {0, 2000000000};
      case 'm': return new int[] {1, 20};
      case 'k': return new int[] {0, 2};
      default: throw new IllegalStateException("kind " + kind);
    }
  }

  /** The ROAD with an act, rows in all SLOTS that fit the call, and IMAGES. */
  private static NorthRoad ready(Method m) {
    NorthRoad x = Check.of(text);
    boolean shares = m.getName().equals("fair") || m.getName().equals("leave");
    for (int k = 0; k < 3; k++) {
      x.image(k);
    }
    for (int slot = 0; slot < 4; slot++) {
      x.row(slot, slot, shares ? riders : 0);
    }
    if (!m.getName().equals("rate")) {
      x.tell(riders - 1, 8);
    }
    return x;
  }

  private static List<long[]> ends(String kinds) {
    List<long[]> all = new ArrayList<>();
    for (int set = 0; set < 1 << kinds.length(); set++) {
      long[] a = new long[kinds.length()];
      for (int i = 0; i < a.length; i++) {
        a[i] = bounds(kinds.charAt(i))[set >> i & 1];
      }
      boolean twice = kinds.startsWith("rr") && a[0] == a[1];
      if (twice && riders > 1) {
        a[1] = a[0] == 0 ? riders - 1 : 0;
      }
      all.add(a);
    }
    return all;
  }

  private static void insides(Method m, String kinds, int refusal, boolean asks) throws Exception {
    for (long[] a : ends(kinds)) {
      String name = m.getName() + Arrays.toString(a);
      NorthRoad x = ready(m);
      String before = State.of(x);
      int answer = call(m, x, a);
      boolean noActs = m.getName().equals("undo") && riders == 0 && answer == -5;
      C.due(name + " is inside its bounds, " + answer, answer != refusal);
      C.due(name + " answers, " + answer, answer >= -1 || noActs || m.getName().matches("worth|share"));
      if (asks) {
        C.same(name, before, State.of(x));
        C.due(name + " again", call(m, x, a), answer);
      }
    }
  }

  /** All other arguments are at ends of their bounds; without an argument outside there are no CARS or RIDERS. */
  private static void outsides(Method m, String kinds, int refusal, int i, int outside) throws Exception {
    for (long[] a : ends(kinds)) {
      if (i >= 0) {
        a[i] = outside;
      }
      String name = m.getName() + Arrays.toString(a) + " on " + text;
      NorthRoad x = ready(m);
      String before = State.of(x);
      C.due(name, call(m, x, a), refusal);
      C.same(name, before, State.of(x));
    }
  }

  private static void withoutRoad(Method m, String kinds, int refusal) throws Exception {
    if (m.getName().equals("image") || m.getName().equals("back")) {
      return;
    }
    for (long[] a : ends(kinds)) {
      NorthRoad x = new NorthRoad();
      x.row(0, 0, 0);
      String before = State.of(x);
      C.due(m.getName() + Arrays.toString(a) + " without a ROAD", call(m, x, a), refusal);
      C.same(m.getName() + " without a ROAD", before, State.of(x));
    }
  }

  // ---- all arguments at ends at once ----

  private static final long[] EDGES = {MIN, -1, 0, 1, 2, 5, 6, 24, 25, 60, MAX};
  private static final String[] STATES = {"", "road places 2 law 3 seats 1 odds 10;",
    "road places 3 law 2 seats 4 odds 1;car from 1 to 2 load 99;rider at 1 says 2 home 3;", FULL};

  private static void extremes() throws Exception {
    List<Method> face = new ArrayList<>();
    for (Method m : NorthRoad.class.getDeclaredMethods()) {
      if (Modifier.isPublic(m.getModifiers())) {
        face.add(m);
      }
    }
    face.sort((p, q) -> p.getName().compareTo(q.getName()));
    for (String state : STATES) {
      for (Method m : face) {
        extremesOf(m, state);
      }
    }
  }

  private static void extremesOf(Method m, String state) throws Exception {
    int many = m.getParameterCount();
    long combinations = many > 3 ? 900 : (long) Math.pow(EDGES.length, many);
    java.util.Random random = new java.util.Random(many);
    Model model = null;
    NorthRoad x = null;
    for (int k = 0; k < combinations; k++) {
      if (k % 100 == 0) {
        model = new Model();
        x = new NorthRoad();
        prepare(x, model, state);
      }
      long[] a = new long[many];
      int rest = k;
      for (int i = 0; i < many; i++) {
        a[i] = EDGES[many > 3 ? random.nextInt(EDGES.length) : rest % EDGES.length];
        rest /= EDGES.length;
      }
      C.due(m.getName() + Arrays.toString(a) + " on " + state, call(m, x, a), model.call(m.getName(), a));
    }
    for (int what = 0; what < 10; what++) {
      both(x, model, "count", what);
    }
  }

  private static void both(NorthRoad x, Model model, String name, long... a) throws Exception {
    C.due(name, call(method(name), x, a), model.call(name, a));
  }

  private static void prepare(NorthRoad x, Model model, String state) throws Exception {
    byte[] b = Check.bytes(state);
    for (int from = 0; from < b.length; from += 20) {
      int[] n = Check.numbers(b, from);
      both(x, model, "feed", n[0], n[1], n[2], n[3], n[4]);
    }
    both(x, model, "end", b.length);
    both(x, model, "road");
    both(x, model, "row", 0, 0, 6);
    both(x, model, "row", 1, 3, 60);
    both(x, model, "row", 2, 3, 1);
    both(x, model, "image", 1);
    both(x, model, "tell", 0, 7);
  }
}
