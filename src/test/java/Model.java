import java.math.BigInteger;
import java.util.ArrayList;
import java.util.Arrays;
import java.util.List;
import java.util.TreeMap;
import java.util.regex.Matcher;
import java.util.regex.Pattern;

/**
 * The document's words once more, as slowly and plainly as they stand: every answer is worked out
 * from the text and the list of acts anew, every row, set and order is gone through. The fuzz test
 * holds NorthRoad against it.
 */
final class Model {
  static final long NONE = -1;

  static final class Fault extends Exception {
    private static final long serialVersionUID = 1L;
    final int kind;
    final int place;

    Fault(int kind, int place) {
      this.kind = kind;
      this.place = place;
    }
  }

  /** What was told, or what it has become by acts. */
  static final class Told {
    int places;
    int law;
    int seats;
    int odds;
    int lines;
    final List<int[]> cars = new ArrayList<>();
    final List<int[]> riders = new ArrayList<>();
    final List<List<Integer>> barred = new ArrayList<>();

    Told copy() {
      Told t = new Told();
      t.places = places;
      t.law = law;
      t.seats = seats;
      t.odds = odds;
      t.lines = lines;
      for (int[] c : cars) {
        t.cars.add(c.clone());
      }
      for (int[] r : riders) {
        t.riders.add(r.clone());
      }
      for (List<Integer> b : barred) {
        t.barred.add(new ArrayList<>(b));
      }
      return t;
    }
  }

  /** A day gone through: [step][car] and [step][rider]. */
  static final class Run {
    final int[][] carAt = new int[25][3];
    final boolean[][] ran = new boolean[25][3];
    final boolean[][] arrived = new boolean[25][3];
    final int[][] riderAt = new int[25][6];
    final int[][] riderCar = new int[25][6];
    final boolean[][] home = new boolean[25][6];
    Told t;

    int loads(int step) {
      int sum = 0;
      for (int c = 0; c < t.cars.size(); c++) {
        sum += arrived[step][c] ? t.cars.get(c)[2] : 0;
      }
      return sum;
    }

    int homeStep(int rider) {
      for (int s = 0; s < 25; s++) {
        if (home[s][rider]) {
          return s;
        }
      }
      return -1;
    }
  }

  private final StringBuilder tape = new StringBuilder();
  private Told base = new Told();
  private List<int[]> acts = new ArrayList<>();
  private int fault = 0;
  private int faultAt = -1;
  private final Told[] imageBase = new Told[3];
  private final List<List<int[]>> imageActs = new ArrayList<>(Arrays.asList(null, null, null));
  private final long[][] rows = new long[4][];
  private final int[] widths = new int[4];

  // ---- the text ----

  private static Told parse(String text) throws Fault {
    Told t = new Told();
    List<int[]> places = new ArrayList<>();
    List<String> tokens = new ArrayList<>();
    Matcher m = Pattern.compile("[a-z]+|[0-9]+|;|[^ \n]", Pattern.DOTALL).matcher(text);
    while (m.find()) {
      tokens.add(m.group());
      places.add(new int[] {m.start()});
    }
    tokens.add("");
    places.add(new int[] {text.length()});
    int i = 0;
    while (!tokens.get(i).isEmpty()) {
      String head = tokens.get(i);
      String[] words;
      if (t.lines == 0 && head.equals("road")) {
        words = new String[] {"places", "law", "seats", "odds"};
      } else if (t.lines > 0 && head.equals("car")) {
        if (t.cars.size() == 3) {
          throw new Fault(3, places.get(i)[0]);
        }
        words = new String[] {"from", "to", "load"};
      } else if (t.lines > 0 && head.equals("rider")) {
        if (t.riders.size() == 6) {
          throw new Fault(3, places.get(i)[0]);
        }
        words = new String[] {"at", "says", "home"};
      } else {
        throw new Fault(1, places.get(i)[0]);
      }
      i++;
      int[] told = new int[words.length];
      for (int w = 0; w < words.length; w++) {
        if (!tokens.get(i).equals(words[w])) {
          throw new Fault(1, places.get(i)[0]);
        }
        i++;
        if (!tokens.get(i).matches("[0-9]+")) {
          throw new Fault(1, places.get(i)[0]);
        }
        BigInteger n = new BigInteger(tokens.get(i));
        int[] bounds = bounds(words[w], t, told);
        if (n.compareTo(BigInteger.valueOf(bounds[0])) < 0 || n.compareTo(BigInteger.valueOf(bounds[1])) > 0) {
          throw new Fault(2, places.get(i)[0]);
        }
        told[w] = n.intValue();
        i++;
      }
      if (!tokens.get(i).equals(";")) {
        throw new Fault(1, places.get(i)[0]);
      }
      i++;
      t.lines++;
      if (head.equals("road")) {
        t.places = told[0];
        t.law = told[1];
        t.seats = told[2];
        t.odds = told[3];
      } else if (head.equals("car")) {
        t.cars.add(told);
        t.barred.add(new ArrayList<>());
      } else {
        t.riders.add(told);
      }
    }
    return t;
  }

  private static int[] bounds(String word, Told t, int[] told) {
    switch (word) {
      case "places": return new int[] {2, 12};
      case "law": return new int[] {0, 3};
      case "seats": return new int[] {1, 4};
      case "odds": return new int[] {0, 10};
      case "from": return new int[] {0, t.places - 2};
      case "to": return new int[] {told[0] + 1, t.places - 1};
      case "at": return new int[] {0, t.places - 1};
      default: return new int[] {0, 99};
    }
  }

  private Told now() {
    Told t = base.copy();
    for (int[] a : acts) {
      if (a[0] == 0) {
        t.barred.get(a[1]).remove((Object) a[2]);
        if (a[3] == 1) {
          t.barred.get(a[1]).add(a[2]);
        }
      } else {
        t.riders.get(a[1])[1] = a[2];
      }
    }
    return t;
  }

  // ---- the day ----

  static Run go(Told t, int come) {
    return go(t, come, t.law);
  }

  static Run go(Told t, int come, int law) {
    Run run = new Run();
    run.t = t;
    int cars = t.cars.size();
    int riders = t.riders.size();
    int[] at = new int[cars];
    for (int c = 0; c < cars; c++) {
      at[c] = t.cars.get(c)[0];
    }
    int[] where = new int[riders];
    int[] in = new int[riders];
    boolean[] home = new boolean[riders];
    for (int r = 0; r < riders; r++) {
      where[r] = t.riders.get(r)[0];
      in[r] = -1;
    }
    boolean[] done = new boolean[cars];
    for (int step = 0; step <= 24; step++) {
      for (int r = 0; r < riders; r++) {
        if ((come >> r & 1) == 1 && !home[r] && where[r] == t.riders.get(r)[2]) {
          home[r] = true;
          in[r] = -1;
        }
      }
      for (int c = 0; c < cars; c++) {
        if (at[c] == t.cars.get(c)[1]) {
          done[c] = true;
          for (int r = 0; r < riders; r++) {
            if (in[r] == c) {
              in[r] = -1;
            }
          }
        }
      }
      for (int c = 0; c < cars; c++) {
        for (int r = 0; r < riders && !done[c]; r++) {
          int inside = 0;
          for (int o = 0; o < riders; o++) {
            inside += in[o] == c ? 1 : 0;
          }
          boolean waits = (come >> r & 1) == 1 && !home[r] && in[r] == -1 && where[r] == at[c];
          if (waits && inside < t.seats && t.riders.get(r)[1] > at[c] && !t.barred.get(c).contains(r)) {
            in[r] = c;
          }
        }
      }
      for (int c = 0; c < cars; c++) {
        run.carAt[step][c] = at[c];
        run.arrived[step][c] = done[c];
        run.ran[step][c] = !done[c] && isRunning(t, law, c, at[c], in);
      }
      for (int r = 0; r < riders; r++) {
        run.riderAt[step][r] = where[r];
        run.riderCar[step][r] = in[r];
        run.home[step][r] = home[r];
      }
      for (int c = 0; c < cars; c++) {
        if (run.ran[step][c]) {
          at[c]++;
          for (int r = 0; r < riders; r++) {
            if (in[r] == c) {
              where[r]++;
            }
          }
        }
      }
    }
    return run;
  }

  private static boolean isRunning(Told t, int law, int car, int at, int[] in) {
    int all = 0;
    int beyondGoal = 0;
    int beyondHere = 0;
    for (int r = 0; r < in.length; r++) {
      if (in[r] == car) {
        all++;
        beyondGoal += t.riders.get(r)[2] > t.cars.get(car)[1] ? 1 : 0;
        beyondHere += t.riders.get(r)[2] > at ? 1 : 0;
      }
    }
    if (law == 0) {
      return beyondGoal > 0;
    }
    if (law == 1) {
      return beyondHere > 0;
    }
    if (law == 2) {
      return beyondHere * 2 > all;
    }
    return beyondHere > 0 || all == 0 && at % 2 == 0;
  }

  private static int everybody(Told t) {
    return (1 << t.riders.size()) - 1;
  }

  private static int brings(Told t, int set) {
    return go(t, set).loads(24);
  }

  // ---- answers ----

  long call(String name, long[] a) {
    int p = a.length > 0 ? (int) a[0] : 0;
    int q = a.length > 1 ? (int) a[1] : 0;
    switch (name) {
      case "feed": return feed(a);
      case "end":
        if (p < 0 || p > tape.length()) {
          return NONE;
        }
        tape.setLength(p);
        return p;
      case "road": return road();
      case "fault": return p == 0 ? fault : p == 1 ? faultAt : NONE;
      case "count": return count(p);
      case "bar": case "tell": case "undo": case "anew": case "rate": return act(name, a);
      case "image":
        if (p < 0 || p > 2) {
          return -2;
        }
        imageBase[p] = base.copy();
        imageActs.set(p, new ArrayList<>(acts));
        return 0;
      case "back":
        if (p < 0 || p > 2) {
          return -2;
        }
        if (imageBase[p] == null) {
          return -6;
        }
        base = imageBase[p].copy();
        acts = new ArrayList<>(imageActs.get(p));
        return 0;
      case "row": case "write": case "paste": return slots(name, a);
      case "fair": case "leave": return shares(name, p);
      case "house": case "least": case "most": case "ask": case "leaves": return guess(name, p, q, 0);
      case "odds": return a[2] < 0 || a[2] > 1 ? -2 : guess(name, p, q, (int) a[2]);
      case "laws": return laws(p);
      default:
    }
    Told t = now();
    if (name.equals("worth") || name.equals("gets")) {
      return values(name, t, a);
    }
    if (t.lines == 0) {
      return -2;
    }
    if (List.of("best", "plan", "ways").contains(name)) {
      return plans(name, t, p);
    }
    if (List.of("cover", "needed", "pair").contains(name)) {
      return groups(name, t);
    }
    if (List.of("stand", "sign", "signs", "by", "law").contains(name)) {
      return told(name, t, p);
    }
    if (List.of("rests", "share").contains(name)) {
      return name.equals("rests") ? rests(t, p, q) : share(t, p, q);
    }
    if (List.of("chance", "mean", "far").contains(name)) {
      return chances(name, t, a);
    }
    if (name.equals("drawn") || name.equals("luck")) {
      return draws(name, t, a);
    }
    return steps(name, t, p, q, a.length);
  }

  private long feed(long[] a) {
    if (tape.length() + 20 > 700) {
      return NONE;
    }
    for (long v : a) {
      for (int shift = 24; shift >= 0; shift -= 8) {
        tape.append((char) (v >> shift & 255));
      }
    }
    return tape.length();
  }

  private long road() {
    try {
      base = parse(tape.toString());
      acts.clear();
      tape.setLength(0);
      fault = 0;
      faultAt = -1;
      return base.lines;
    } catch (Fault f) {
      fault = f.kind;
      faultAt = f.place;
      return -4;
    }
  }

  private long count(int what) {
    int have = 0;
    for (long[] r : rows) {
      have += r == null ? 0 : 1;
    }
    int[] all = {base.places, base.law, base.seats, base.odds, base.cars.size(), base.riders.size(), acts.size(),
      base.lines, tape.length(), have};
    return what < 0 || what >= all.length ? NONE : all[what];
  }

  private long act(String name, long[] a) {
    Told t = now();
    int cars = t.cars.size();
    int riders = t.riders.size();
    switch (name) {
      case "bar": {
        if (a[0] < 0 || a[0] >= cars || a[1] < 0 || a[1] >= riders || a[2] < 0 || a[2] > 1) {
          return -2;
        }
        if (acts.size() == 40) {
          return -5;
        }
        acts.add(new int[] {0, (int) a[0], (int) a[1], (int) a[2]});
        return t.barred.get((int) a[0]).contains((int) a[1]) ? 1 : 0;
      }
      case "tell": {
        if (a[0] < 0 || a[0] >= riders || a[1] < 0 || a[1] > 99) {
          return -2;
        }
        if (acts.size() == 40) {
          return -5;
        }
        acts.add(new int[] {1, (int) a[0], (int) a[1]});
        return t.riders.get((int) a[0])[1];
      }
      case "undo": {
        if (t.lines == 0) {
          return -2;
        }
        if (acts.isEmpty()) {
          return -5;
        }
        acts.remove(acts.size() - 1);
        return acts.size();
      }
      case "anew": {
        if (t.lines == 0) {
          return -2;
        }
        int had = acts.size();
        acts.clear();
        return had;
      }
      default: {
        if (a[0] < 0 || a[0] >= cars || a[1] < 0 || a[1] > 99) {
          return -2;
        }
        if (!acts.isEmpty()) {
          return -5;
        }
        int was = base.cars.get((int) a[0])[2];
        base.cars.get((int) a[0])[2] = (int) a[1];
        return was;
      }
    }
  }

  private long slots(String name, long[] a) {
    if (a[0] < 0 || a[0] > 3) {
      return -2;
    }
    int s = (int) a[0];
    if (name.equals("row")) {
      if (a[1] < 0 || a[1] > 3 || a[2] > 60) {
        return -2;
      }
      if (a[2] < 0) {
        return -3;
      }
      rows[s] = new long[(int) a[2]];
      widths[s] = (int) a[1];
      return 0;
    }
    if (name.equals("write")) {
      if (rows[s] == null) {
        return -6;
      }
      if (a[1] < 0 || a[1] >= rows[s].length) {
        return -7;
      }
      int unused = 64 - (8 << widths[s]);
      rows[s][(int) a[1]] = a[2] << unused >> unused;
      return 0;
    }
    if (a[2] < 0 || a[2] > 3) {
      return -2;
    }
    int to = (int) a[2];
    if (rows[s] == null || rows[to] == null) {
      return -6;
    }
    if (widths[s] != widths[to]) {
      return -8;
    }
    if (a[1] < 0 || a[3] < 0 || a[4] < 0 || a[1] + a[4] > rows[s].length || a[3] + a[4] > rows[to].length) {
      return -7;
    }
    long[] were = rows[s].clone();
    for (int k = 0; k < a[4]; k++) {
      rows[to][(int) a[3] + k] = were[(int) a[1] + k];
    }
    return 0;
  }

  private long shares(String name, int slot) {
    Told t = now();
    if (slot < 0 || slot > 3 || t.lines == 0) {
      return -2;
    }
    if (rows[slot] == null) {
      return -6;
    }
    if (rows[slot].length != t.riders.size()) {
      return -2;
    }
    long leaving = NONE;
    for (int set = 1; set <= everybody(t) && leaving == NONE; set++) {
      if (given(rows[slot], set).compareTo(BigInteger.valueOf(brings(t, set))) < 0) {
        leaving = set;
      }
    }
    if (name.equals("leave")) {
      return leaving;
    }
    boolean whole = given(rows[slot], everybody(t)).equals(BigInteger.valueOf(brings(t, everybody(t))));
    return leaving == NONE && whole ? 1 : 0;
  }

  private static BigInteger given(long[] row, int set) {
    BigInteger sum = BigInteger.ZERO;
    for (int r = 0; r < row.length; r++) {
      if ((set >> r & 1) == 1) {
        sum = sum.add(BigInteger.valueOf(row[r]));
      }
    }
    return sum;
  }

  private boolean isBadSeen(Told t, long[] row) {
    if (row.length % 3 != 0) {
      return true;
    }
    for (int i = 0; i < row.length; i += 3) {
      if (row[i] < 0 || row[i] >= t.cars.size() || row[i + 1] < 0 || row[i + 1] > 24 || row[i + 2] < 0
          || row[i + 2] >= t.places) {
        return true;
      }
    }
    return false;
  }

  private static boolean wasSo(Run run, long[] row) {
    for (int i = 0; i < row.length; i += 3) {
      if (run.carAt[(int) row[i + 1]][(int) row[i]] != row[i + 2]) {
        return false;
      }
    }
    return true;
  }

  private long guess(String name, int slot, int rider, int what) {
    Told t = now();
    if (slot < 0 || slot > 3 || rider < 0 || rider >= t.riders.size()) {
      return -2;
    }
    if (rows[slot] == null) {
      return -6;
    }
    if (isBadSeen(t, rows[slot])) {
      return -2;
    }
    TreeMap<Integer, Run> fit = new TreeMap<>();
    int comes = 0;
    for (int home = 0; home <= 20; home++) {
      Told o = t.copy();
      o.riders.get(rider)[2] = home;
      Run run = go(o, everybody(o));
      if (wasSo(run, rows[slot])) {
        fit.put(home, run);
        comes += run.homeStep(rider) >= 0 ? 1 : 0;
      }
    }
    switch (name) {
      case "house": return fit.size();
      case "least": return fit.isEmpty() ? NONE : fit.firstKey();
      case "most": return fit.isEmpty() ? NONE : fit.lastKey();
      case "odds": return fit.isEmpty() ? NONE : fraction(comes, fit.size(), what);
      default:
    }
    int left = fit.size();
    long asked = NONE;
    for (int car = 0; car < t.cars.size(); car++) {
      for (int step = 0; step <= 24; step++) {
        TreeMap<Integer, Integer> kinds = new TreeMap<>();
        for (Run run : fit.values()) {
          kinds.merge(run.carAt[step][car], 1, Integer::sum);
        }
        int worst = 0;
        for (int many : kinds.values()) {
          worst = Math.max(worst, many);
        }
        if (worst < left) {
          left = worst;
          asked = 100L * car + step;
        }
      }
    }
    return name.equals("ask") ? asked : left;
  }

  private long laws(int slot) {
    Told t = now();
    if (slot < 0 || slot > 3 || t.lines == 0) {
      return -2;
    }
    if (rows[slot] == null) {
      return -6;
    }
    if (isBadSeen(t, rows[slot])) {
      return -2;
    }
    int bits = 0;
    for (int law = 0; law <= 3; law++) {
      bits |= wasSo(go(t, everybody(t), law), rows[slot]) ? 1 << law : 0;
    }
    return bits;
  }

  private long values(String name, Told t, long[] a) {
    int riders = t.riders.size();
    if (a[0] < 0 || a[0] >= riders) {
      return -1000;
    }
    int rider = (int) a[0];
    if (name.equals("worth")) {
      return brings(t, everybody(t)) - brings(t, everybody(t) & ~(1 << rider));
    }
    boolean bad = a[1] < 0 || a[1] >= riders || a[0] == a[1] || a[2] < 0 || a[2] > 1 || a[3] < 0 || a[3] > 1;
    return bad ? -1000 : gain(t, rider, (int) a[1], a[2] == 1, a[3] == 1);
  }

  private static int gain(Told t, int rider, int other, boolean away, boolean otherAway) {
    int come = everybody(t);
    come &= away ? ~(1 << rider) : -1;
    come &= otherAway ? ~(1 << other) : -1;
    int step = go(t, come).homeStep(rider);
    int gets = !away && step >= 0 ? 25 - step : 0;
    return away ? gets + 3 : gets;
  }

  private static long rests(Told t, int rider, int other) {
    int n = t.riders.size();
    if (rider < 0 || rider >= n || other < 0 || other >= n || rider == other) {
      return -2;
    }
    int bits = 0;
    boolean[] choices = {false, true};
    for (boolean a : choices) {
      for (boolean b : choices) {
        boolean first = gain(t, rider, other, !a, b) <= gain(t, rider, other, a, b);
        boolean second = gain(t, other, rider, !b, a) <= gain(t, other, rider, b, a);
        if (first && second) {
          bits |= !a && !b ? 1 : a && !b ? 2 : !a ? 4 : 8;
        }
      }
    }
    return bits;
  }

  private static long share(Told t, int rider, int what) {
    int n = t.riders.size();
    if (rider < 0 || rider >= n || what < 0 || what > 1) {
      return -2;
    }
    long[] bring = new long[1 << n];
    for (int set = 0; set < bring.length; set++) {
      bring[set] = brings(t, set);
    }
    long[] sum = new long[2];
    orders(bring, 0, n, rider, sum);
    return fraction(sum[0], sum[1], what);
  }

  private static void orders(long[] bring, int come, int n, int rider, long[] sum) {
    if (come == (1 << n) - 1) {
      sum[1]++;
      return;
    }
    for (int r = 0; r < n; r++) {
      if ((come >> r & 1) == 0) {
        long ordersBefore = sum[1];
        orders(bring, come | 1 << r, n, rider, sum);
        if (r == rider) {
          sum[0] += (sum[1] - ordersBefore) * (bring[come | 1 << r] - bring[come]);
        }
      }
    }
  }

  private static long fraction(long above, long below, int what) {
    BigInteger a = BigInteger.valueOf(above);
    BigInteger b = BigInteger.valueOf(below);
    BigInteger g = a.gcd(b);
    return (what == 0 ? a : b).divide(g).longValueExact();
  }

  private static long plans(String name, Told t, int rider) {
    int n = t.riders.size();
    if (name.equals("plan") && (rider < 0 || rider >= n)) {
      return -2;
    }
    int cars = t.cars.size();
    long all = 1;
    for (int r = 0; r < n; r++) {
      all *= cars + 1;
    }
    int best = -1;
    int ways = 0;
    int[] first = new int[n];
    for (long k = 0; k < all; k++) {
      int[] row = new int[n];
      long rest = k;
      for (int r = n - 1; r >= 0; r--) {
        row[r] = (int) (rest % (cars + 1)) - 1;
        rest /= cars + 1;
      }
      Told o = t.copy();
      for (int c = 0; c < cars; c++) {
        o.barred.get(c).clear();
        for (int r = 0; r < n; r++) {
          if (row[r] != c) {
            o.barred.get(c).add(r);
          }
        }
      }
      int loads = brings(o, everybody(o));
      if (loads > best) {
        best = loads;
        ways = 0;
        first = row;
      }
      ways += loads == best ? 1 : 0;
    }
    return name.equals("best") ? best : name.equals("ways") ? ways : first[rider];
  }

  private static long groups(String name, Told t) {
    int n = t.riders.size();
    int all = everybody(t);
    int have = brings(t, all);
    if (name.equals("cover")) {
      for (int many = 0; many <= n; many++) {
        for (int set = 0; set <= all; set++) {
          if (Integer.bitCount(set) == many && brings(t, set) >= have) {
            return set;
          }
        }
      }
    }
    int needed = 0;
    for (int r = 0; r < n; r++) {
      needed |= brings(t, all & ~(1 << r)) < have ? 1 << r : 0;
    }
    if (name.equals("needed")) {
      return needed;
    }
    for (int r = 0; r < n; r++) {
      for (int o = r + 1; o < n; o++) {
        int both = 1 << r | 1 << o;
        if ((needed & both) == 0 && brings(t, all & ~both) < have) {
          return 10L * r + o;
        }
      }
    }
    return NONE;
  }

  private static long told(String name, Told t, int p) {
    if (name.equals("by") || name.equals("law")) {
      if (name.equals("by")) {
        return p < 0 || p > 3 ? -2 : go(t, everybody(t), p).loads(24);
      }
      int found = 0;
      for (int law = 1; law <= 3; law++) {
        found = go(t, everybody(t), law).loads(24) > go(t, everybody(t), found).loads(24) ? law : found;
      }
      return found;
    }
    if (p < 0 || p >= t.riders.size()) {
      return -2;
    }
    if (name.equals("stand")) {
      long found = NONE;
      int most = -1;
      for (int place = 0; place < t.places; place++) {
        Told o = t.copy();
        o.riders.get(p)[0] = place;
        int loads = brings(o, everybody(o));
        found = loads > most ? place : found;
        most = Math.max(most, loads);
      }
      return found;
    }
    Run plain = go(t, everybody(t));
    int soonest = plain.homeStep(p) < 0 ? 1000 : plain.homeStep(p);
    int most = plain.loads(24);
    long found = NONE;
    for (int n = 0; n <= 20; n++) {
      Told o = t.copy();
      o.riders.get(p)[1] = n;
      Run run = go(o, everybody(o));
      int step = run.homeStep(p) < 0 ? 1000 : run.homeStep(p);
      if (name.equals("sign") ? step < soonest : run.loads(24) > most) {
        found = n;
        soonest = step;
        most = run.loads(24);
      }
    }
    return found;
  }

  private static long chances(String name, Told t, long[] a) {
    int what = (int) a[a.length - 1];
    if (what < 0 || what > 1 || a.length == 2 && (a[0] < 0 || a[0] >= t.cars.size())) {
      return -2;
    }
    int car = a.length == 2 ? (int) a[0] : 0;
    long above = 0;
    long below = 0;
    for (int set = 0; set <= everybody(t); set++) {
      long weight = 1;
      for (int r = 0; r < t.riders.size(); r++) {
        weight *= (set >> r & 1) == 1 ? 10 - t.odds : t.odds;
      }
      Run run = go(t, set);
      long value = name.equals("mean") ? run.loads(24)
          : name.equals("far") ? run.carAt[24][car] : run.arrived[24][car] ? 1 : 0;
      above += weight * value;
      below += weight;
    }
    return fraction(above, below, what);
  }

  private static int comeDrawn(Told t, long seed) {
    BigInteger x = BigInteger.valueOf(seed);
    int come = 0;
    for (int r = 0; r < t.riders.size(); r++) {
      x = x.multiply(BigInteger.valueOf(1103515245)).add(BigInteger.valueOf(12345)).mod(BigInteger.ONE.shiftLeft(31));
      int draw = x.shiftRight(16).mod(BigInteger.TEN).intValue();
      come |= draw < t.odds ? 0 : 1 << r;
    }
    return come;
  }

  private static long draws(String name, Told t, long[] a) {
    if (a[0] < 0 || a[0] > 2000000000L) {
      return -2;
    }
    if (name.equals("drawn")) {
      if (a[1] < 0 || a[1] > 1) {
        return -2;
      }
      int come = comeDrawn(t, a[0]);
      return a[1] == 0 ? everybody(t) & ~come : brings(t, come);
    }
    if (a[1] < 1 || a[1] > 20 || a[2] < 0 || a[2] >= t.cars.size()) {
      return -2;
    }
    int days = 0;
    for (int k = 0; k < a[1]; k++) {
      days += go(t, comeDrawn(t, a[0] + k)).arrived[24][(int) a[2]] ? 1 : 0;
    }
    return days;
  }

  private static int bits(boolean[] of, int many) {
    int set = 0;
    for (int k = 0; k < many; k++) {
      set |= of[k] ? 1 << k : 0;
    }
    return set;
  }

  private static int inside(Run run, int step, int car) {
    int set = 0;
    for (int r = 0; r < run.t.riders.size(); r++) {
      set |= run.riderCar[step][r] == car ? 1 << r : 0;
    }
    return set;
  }

  private static boolean waits(Run run, int step, int rider) {
    return run.riderCar[step][rider] < 0 && !run.home[step][rider];
  }

  private static boolean stays(Run run, int step, int car) {
    return !run.arrived[step][car] && !run.ran[step][car];
  }

  /** Calls about the day as it is. */
  private static long steps(String name, Told t, int p, int q, int args) {
    Run run = go(t, everybody(t));
    boolean ofCar = List.of("car", "at", "aboard", "runs", "arrives", "stands", "stuck", "fullest", "alone",
        "further").contains(name);
    boolean ofRider = List.of("rider", "within", "place", "home", "cars", "rides", "waits", "meets", "missed")
        .contains(name);
    if (ofCar && (p < 0 || p >= t.cars.size()) || ofRider && (p < 0 || p >= t.riders.size())) {
      return -2;
    }
    if (name.equals("car") || name.equals("rider")) {
      return q < 0 || q > 2 ? -2 : name.equals("car") ? t.cars.get(p)[q] : t.riders.get(p)[q];
    }
    if (name.equals("meets")) {
      if (q < 0 || q >= t.riders.size()) {
        return -2;
      }
      for (int s = 0; s <= 24; s++) {
        if (run.riderCar[s][p] >= 0 && run.riderCar[s][p] == run.riderCar[s][q]) {
          return s;
        }
      }
      return NONE;
    }
    if (args == 2) {
      return q < 0 || q > 24 ? -2 : atStep(name, t, run, p, q);
    }
    if (args == 1 && !ofCar && !ofRider) {
      return p < 0 || p > 24 ? -2 : wholeStep(name, t, run, p);
    }
    return ofCar ? ofCar(name, run, p) : ofRider ? ofRider(name, t, run, p) : ofRoad(name, t, run);
  }

  private static long atStep(String name, Told t, Run run, int p, int step) {
    switch (name) {
      case "at": return run.carAt[step][p];
      case "aboard": return inside(run, step, p);
      case "runs": return run.ran[step][p] ? 1 : 0;
      case "within": return run.riderCar[step][p];
      case "place": return run.riderAt[step][p];
      case "waiting": {
        if (p < 0 || p >= t.places) {
          return -2;
        }
        int set = 0;
        for (int r = 0; r < t.riders.size(); r++) {
          set |= waits(run, step, r) && run.riderAt[step][r] == p ? 1 << r : 0;
        }
        return set;
      }
      case "further": {
        int set = 0;
        for (int r = 0; r < t.riders.size(); r++) {
          set |= run.riderCar[step][r] == p && t.riders.get(r)[2] > run.carAt[step][p] ? 1 << r : 0;
        }
        return set;
      }
      default: throw new IllegalStateException(name);
    }
  }

  private static long wholeStep(String name, Told t, Run run, int step) {
    int cars = t.cars.size();
    switch (name) {
      case "done": return bits(run.arrived[step], cars);
      case "loads": return run.loads(step);
      case "homes": return bits(run.home[step], t.riders.size());
      case "crowd": {
        int[] many = new int[t.places];
        for (int r = 0; r < t.riders.size(); r++) {
          many[run.riderAt[step][r]] += waits(run, step, r) ? 1 : 0;
        }
        int found = 0;
        for (int k = 1; k < many.length; k++) {
          found = many[k] > many[found] ? k : found;
        }
        return many[found] == 0 ? NONE : found;
      }
      case "empty": {
        int set = 0;
        for (int c = 0; c < cars; c++) {
          set |= inside(run, step, c) == 0 ? 1 << c : 0;
        }
        return set;
      }
      case "idle": {
        int set = 0;
        for (int c = 0; c < cars; c++) {
          set |= stays(run, step, c) ? 1 << c : 0;
        }
        return set;
      }
      case "lead": {
        int found = -1;
        for (int c = cars - 1; c >= 0; c--) {
          found = found < 0 || run.carAt[step][c] >= run.carAt[step][found] ? c : found;
        }
        return found;
      }
      default: throw new IllegalStateException(name);
    }
  }

  private static long ofCar(String name, Run run, int car) {
    int arrives = -1;
    int stands = 0;
    int stuck = 0;
    int fullest = 0;
    int alone = 0;
    for (int s = 24; s >= 0; s--) {
      arrives = run.arrived[s][car] ? s : arrives;
      stands += stays(run, s, car) ? 1 : 0;
      fullest = Math.max(fullest, Integer.bitCount(inside(run, s, car)));
      alone += inside(run, s, car) == 0 ? 1 : 0;
      int k = s;
      while (k <= 24 && stays(run, k, car)) {
        k++;
      }
      stuck = Math.max(stuck, k - s);
    }
    switch (name) {
      case "arrives": return arrives;
      case "stands": return stands;
      case "stuck": return stuck;
      case "fullest": return fullest;
      case "alone": return alone;
      default: throw new IllegalStateException(name);
    }
  }

  private static long ofRider(String name, Told t, Run run, int rider) {
    int cars = 0;
    int waits = 0;
    int missed = 0;
    for (int s = 0; s <= 24; s++) {
      cars |= run.riderCar[s][rider] >= 0 ? 1 << run.riderCar[s][rider] : 0;
      boolean w = waits(run, s, rider);
      waits += w ? 1 : 0;
      boolean beside = false;
      for (int c = 0; c < t.cars.size(); c++) {
        beside |= !run.arrived[s][c] && run.carAt[s][c] == run.riderAt[s][rider];
      }
      missed += w && beside ? 1 : 0;
    }
    switch (name) {
      case "home": return run.homeStep(rider);
      case "cars": return cars;
      case "rides": return run.riderAt[24][rider] - t.riders.get(rider)[0];
      case "waits": return waits;
      case "missed": return missed;
      default: throw new IllegalStateException(name);
    }
  }

  private static long ofRoad(String name, Told t, Run run) {
    int cars = t.cars.size();
    if (name.equals("ends")) {
      for (int s = 0; s <= 24; s++) {
        if (bits(run.arrived[s], cars) == (1 << cars) - 1) {
          return s;
        }
      }
      return NONE;
    }
    for (int s = 1; s <= 24; s++) {
      for (int c = 0; c < cars; c++) {
        if (stays(run, s, c) && run.ran[s - 1][c]) {
          return name.equals("halt") ? s : c;
        }
      }
    }
    return NONE;
  }
}
