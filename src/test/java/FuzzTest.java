import java.lang.reflect.Method;
import java.lang.reflect.Modifier;
import java.util.ArrayList;
import java.util.Comparator;
import java.util.List;
import java.util.Random;

/** Random runs of calls, each answer held against the model's. Roads are drawn so that cars do go. */
public final class FuzzTest {
  private static final Check CHECK = new Check();
  private static final List<Method> FACE = new ArrayList<>();
  private static Random random;
  private static NorthRoad x;
  private static Model model;
  private static final StringBuilder log = new StringBuilder();

  public static void main(String[] args) throws Exception {
    int runs = args.length > 0 ? Integer.parseInt(args[0]) : 400;
    long first = args.length > 1 ? Long.parseLong(args[1]) : 1;
    for (Method m : NorthRoad.class.getDeclaredMethods()) {
      if (Modifier.isPublic(m.getModifiers())) {
        FACE.add(m);
      }
    }
    FACE.sort(Comparator.comparing(Method::getName));
    CHECK.due("methods of the face", FACE.size(), 74);
    for (long seed = first; seed < first + runs && !CHECK.any(); seed++) {
      run(seed);
    }
    if (CHECK.any()) {
      System.out.println(log);
    }
    CHECK.close();
  }

  private static void run(long seed) throws Exception {
    random = new Random(seed);
    x = new NorthRoad();
    model = new Model();
    log.setLength(0);
    log.append("seed ").append(seed).append('\n');
    if (random.nextInt(4) > 0) {
      load(goodRoad());
    }
    for (int k = 0; k < 250 && !CHECK.any(); k++) {
      int kind = random.nextInt(60);
      if (kind == 0) {
        load(goodRoad());
      } else if (kind == 1) {
        load(spoiled(goodRoad()));
      } else if (kind < 5) {
        fillSeen();
      } else if (kind < 8) {
        fillShares();
      } else if (kind == 8) {
        burst();
      } else {
        Method m = FACE.get(random.nextInt(FACE.size()));
        boolean tape = List.of("feed", "end", "road").contains(m.getName());
        boolean dear = List.of("best", "ways", "plan").contains(m.getName());
        if (!tape && (!dear || random.nextInt(3) == 0) || random.nextInt(12) == 0) {
          ask(m.getName(), arguments(m));
        }
      }
    }
  }

  private static long ask(String name, long... a) throws Exception {
    for (Method m : FACE) {
      if (m.getName().equals(name)) {
        Object[] given = new Object[a.length];
        for (int i = 0; i < a.length; i++) {
          given[i] = m.getParameterTypes()[i] == long.class ? (Object) a[i] : (Object) (int) a[i];
        }
        long got = (int) m.invoke(x, given);
        long want = model.call(name, a);
        StringBuilder call = new StringBuilder(name).append(java.util.Arrays.toString(a));
        log.append(call).append(" = ").append(got).append('\n');
        CHECK.due(call.toString(), got, want);
        return got;
      }
    }
    throw new IllegalStateException(name);
  }

  private static void load(String text) throws Exception {
    log.append("text ").append(text).append('\n');
    ask("end", 0);
    byte[] b = Check.bytes(text);
    for (int from = 0; from < b.length; from += 20) {
      int[] n = Check.numbers(b, from);
      ask("feed", n[0], n[1], n[2], n[3], n[4]);
    }
    ask("end", b.length);
    ask("road");
    ask("fault", 0);
    ask("fault", 1);
  }

  private static long[] arguments(Method m) {
    String name = m.getName();
    long[] a = new long[m.getParameterCount()];
    for (int i = 0; i < a.length; i++) {
      a[i] = random.nextInt(25) == 0 ? wild() : random.nextInt(i == 1 ? 25 : 6);
    }
    boolean paired = List.of("meets", "rests", "gets", "bar", "house", "least", "most", "ask", "leaves", "odds")
        .contains(name);
    if (paired && random.nextInt(20) > 0) {
      a[1] = random.nextInt(6);
    }
    if (List.of("at", "aboard", "runs", "arrives", "stands", "stuck", "fullest", "bar", "rate", "chance", "far",
        "alone", "further").contains(name)) {
      a[0] = random.nextInt(20) == 0 ? wild() : random.nextInt(3);
    }
    if (List.of("done", "loads", "homes", "crowd", "empty", "idle", "lead").contains(name)) {
      a[0] = random.nextInt(27) - 1;
    }
    if (List.of("car", "rider", "share", "chance", "far", "drawn").contains(name)) {
      a[1] = random.nextInt(20) == 0 ? wild() : random.nextInt(2);
    }
    if (List.of("drawn", "luck").contains(name)) {
      a[0] = random.nextInt(10) == 0 ? wild() : 1999999990L + random.nextInt(12) - random.nextInt(1999999990);
    }
    if (List.of("house", "least", "most", "ask", "leaves", "odds", "laws", "fair", "leave").contains(name)) {
      a[0] = random.nextInt(12) == 0 ? wild() : random.nextInt(4);
    }
    if (name.equals("bar") || name.equals("odds")) {
      a[2] = random.nextInt(15) == 0 ? wild() : random.nextInt(2);
    }
    if (name.equals("gets")) {
      a[2] = random.nextInt(15) == 0 ? wild() : random.nextInt(2);
      a[3] = random.nextInt(15) == 0 ? wild() : random.nextInt(2);
    }
    if (List.of("waiting").contains(name)) {
      a[0] = random.nextInt(13);
    }
    if (List.of("count", "by", "image", "back").contains(name)) {
      a[0] = random.nextInt(name.equals("count") ? 12 : 5) - 1;
    }
    if (name.equals("tell")) {
      a[1] = random.nextInt(8) == 0 ? random.nextInt(103) - 2 : random.nextInt(13);
    }
    if (name.equals("write")) {
      a[2] = random.nextInt(3) == 0 ? random.nextLong() : random.nextInt(400) - 100;
    }
    if (name.equals("paste")) {
      for (int i = 0; i < 5; i++) {
        a[i] = random.nextInt(20) == 0 ? wild() : random.nextInt(i == 4 ? 7 : 4);
      }
    }
    if (name.equals("row")) {
      a[2] = random.nextInt(64) - 2;
    }
    return a;
  }

  /** Acts one behind the other, now and then beyond their limit. */
  private static void burst() throws Exception {
    int many = random.nextInt(5) == 0 ? 45 : random.nextInt(8);
    for (int k = 0; k < many; k++) {
      int rider = random.nextInt(Math.max(1, x.count(5)));
      if (random.nextBoolean()) {
        ask("tell", rider, random.nextInt(13));
      } else {
        ask("bar", random.nextInt(Math.max(1, x.count(4))), rider, random.nextInt(4) == 0 ? 0 : 1);
      }
      if (random.nextInt(6) == 0) {
        ask("undo");
      }
    }
  }

  private static long wild() {
    int[] edges = {-1, 7, 24, 25, 26, 60, 61, 100, Integer.MAX_VALUE, Integer.MIN_VALUE, -2, 2, 3, 4};
    return edges[random.nextInt(edges.length)];
  }

  /** A row of what was seen: for the most part what is so now, so that something fits it. */
  private static void fillSeen() throws Exception {
    int slot = random.nextInt(4);
    int many = random.nextInt(4);
    ask("row", slot, random.nextInt(4), 3 * many + (random.nextInt(12) == 0 ? 1 : 0));
    for (int i = 0; i < many; i++) {
      int car = random.nextInt(15) == 0 ? random.nextInt(5) - 1 : random.nextInt(Math.max(1, x.count(4)));
      int step = random.nextInt(20) == 0 ? random.nextInt(28) - 1 : random.nextInt(12);
      int place = random.nextInt(4) == 0 ? random.nextInt(13) - 1 : x.at(car, step);
      ask("write", slot, 3 * i, car);
      ask("write", slot, 3 * i + 1, step);
      ask("write", slot, 3 * i + 2, place);
    }
    for (int rider = 0; rider < x.count(5); rider++) {
      ask("house", slot, rider);
      ask("least", slot, rider);
      ask("most", slot, rider);
      ask("ask", slot, rider);
      ask("leaves", slot, rider);
      ask("odds", slot, rider, 0);
      ask("odds", slot, rider, 1);
    }
    ask("laws", slot);
  }

  private static void fillShares() throws Exception {
    int slot = random.nextInt(4);
    int riders = x.count(5);
    int width = random.nextInt(4);
    ask("row", slot, width, riders);
    int rest = Math.max(0, x.loads(24));
    for (int i = 0; i < riders; i++) {
      int some = i == riders - 1 ? rest : Math.min(rest, Math.max(0, x.worth(i)) + random.nextInt(2));
      boolean far = random.nextInt(12) == 0;
      rest -= some;
      ask("write", slot, i, far ? random.nextBoolean() ? Long.MAX_VALUE : Long.MIN_VALUE : some);
    }
    ask("fair", slot);
    ask("leave", slot);
  }

  private static String goodRoad() {
    int places = 2 + random.nextInt(11);
    StringBuilder s = new StringBuilder();
    if (random.nextInt(30) == 0) {
      return s.append(" \n ".substring(random.nextInt(4))).toString();
    }
    s.append("road places ").append(places).append(" law ").append(random.nextInt(4)).append(" seats ");
    s.append(1 + random.nextInt(4)).append(" odds ").append(random.nextInt(11)).append(";");
    int cars = random.nextInt(10) == 0 ? random.nextInt(4) : 1 + random.nextInt(3);
    int riders = random.nextInt(10) == 0 ? random.nextInt(7) : 2 + random.nextInt(4);
    int[] goals = new int[4];
    while (cars + riders > 0) {
      if (random.nextInt(cars + riders) < cars) {
        int from = random.nextInt(3) == 0 ? random.nextInt(places - 1) : goals[random.nextInt(4)] % (places - 1);
        int to = from + 1 + random.nextInt(places - 1 - from);
        goals[cars] = to;
        int load = random.nextInt(3) == 0 ? random.nextInt(100) : 10 * (1 + random.nextInt(3));
        s.append("car from ").append(from).append(" to ").append(to).append(" load ").append(load).append(";");
        cars--;
      } else {
        int at = random.nextInt(3) == 0 ? random.nextInt(places) : goals[random.nextInt(4)];
        int says = random.nextInt(8) == 0 ? random.nextInt(100) : Math.min(99, at + random.nextInt(5));
        int home = random.nextInt(8) == 0 ? random.nextInt(100) : random.nextInt(places + 3);
        s.append("rider at ").append(at).append(" says ").append(says).append(" home ").append(home).append(";");
        riders--;
      }
      s.append(" \n".substring(random.nextInt(3)));
    }
    return s.toString();
  }

  private static String spoiled(String text) {
    StringBuilder s = new StringBuilder(text);
    int times = 1 + random.nextInt(2);
    for (int k = 0; k < times && s.length() > 0; k++) {
      int i = random.nextInt(s.length());
      switch (random.nextInt(8)) {
        case 0: s.setLength(i); break;
        case 1: s.deleteCharAt(i); break;
        case 2: s.insert(i, (char) random.nextInt(256)); break;
        case 3: s.insert(i, ' '); break;
        case 4: s.insert(i, "0123456789;".charAt(random.nextInt(11))); break;
        case 5: s.setCharAt(i, (char) ('a' + random.nextInt(26))); break;
        case 6: s.insert(i, new String[] {"road", "car ", ";rider ", "000", "99999999999", "car from 0 to 1 load 1;"}
            [random.nextInt(6)]); break;
        default: s.append("car from 0 to 1 load 1;car from 0 to 1 load 1;rider at 0 says 1 home 1;");
      }
    }
    return s.length() > 680 ? s.substring(0, 680) : s.toString();
  }
}
