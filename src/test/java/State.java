/** What can be seen of an object, as a text: two texts are equal if nothing that is seen differs. */
final class State {
  private State() {
  }

  static String of(NorthRoad x) {
    StringBuilder s = new StringBuilder("counts");
    for (int what = 0; what < 10; what++) {
      add(s, x.count(what));
    }
    s.append(" fault");
    add(s, x.fault(0));
    add(s, x.fault(1));
    for (int car = 0; car < x.count(4); car++) {
      s.append(" car");
      add(s, x.car(car, 0));
      add(s, x.car(car, 1));
      add(s, x.car(car, 2));
      add(s, x.arrives(car));
      for (int step = 0; step < 12; step += 2) {
        add(s, x.aboard(car, step));
      }
    }
    for (int rider = 0; rider < x.count(5); rider++) {
      s.append(" rider");
      add(s, x.rider(rider, 0));
      add(s, x.rider(rider, 1));
      add(s, x.rider(rider, 2));
      add(s, x.stand(rider));
    }
    s.append(" laws");
    for (int law = 0; law < 4; law++) {
      add(s, x.by(law));
    }
    s.append(" slots");
    for (int slot = 0; slot < 4; slot++) {
      add(s, x.fair(slot));
      add(s, x.leave(slot));
      add(s, x.laws(slot));
      add(s, sizeOf(x, slot));
      add(s, x.paste(slot, 0, 0, 0, 0));
    }
    return s.toString();
  }

  /** The greatest place to which nothing can be put; -6: there is no row. */
  static int sizeOf(NorthRoad x, int slot) {
    int size = -1;
    for (int step = 32; step > 0; step /= 2) {
      int answer = x.paste(slot, size + step, slot, size + step, 0);
      if (answer == -6) {
        return -6;
      }
      size += answer == 0 ? step : 0;
    }
    return size;
  }

  private static void add(StringBuilder s, int n) {
    s.append(' ').append(n);
  }
}
