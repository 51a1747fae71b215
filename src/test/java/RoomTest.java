import java.lang.management.ManagementFactory;
import java.lang.reflect.Array;
import java.lang.reflect.Field;
import java.lang.reflect.Modifier;
import java.util.ArrayDeque;
import java.util.Collections;
import java.util.IdentityHashMap;
import java.util.Set;

/** All calls of a run live in one room: an object is small, and no call makes another one. */
public final class RoomTest {
  private static final Check C = new Check();
  private static final String FULL = "road places 12 law 1 seats 4 odds 5;car from 0 to 9 load 9;car from 0 to 10 load 8;"
      + "car from 0 to 11 load 7;rider at 0 says 9 home 8;rider at 0 says 9 home 10;rider at 0 says 9 home 11;"
      + "rider at 0 says 9 home 7;rider at 0 says 9 home 9;rider at 0 says 9 home 99;";

  public static void main(String[] args) throws Exception {
    size(Check.of(FULL));
    NorthRoad x = Check.of(FULL);
    all(x);
    var bean = (com.sun.management.ThreadMXBean) ManagementFactory.getThreadMXBean();
    long id = Thread.currentThread().getId();
    bean.getThreadAllocatedBytes(id);
    long before = bean.getThreadAllocatedBytes(id);
    int sum = 0;
    for (int k = 0; k < 100; k++) {
      sum += all(x);
    }
    long made = bean.getThreadAllocatedBytes(id) - before;
    C.due("bytes made by calls: " + made, made < 2000);
    C.due("answers", sum != 0);
    C.close();
  }

  private static void size(NorthRoad x) throws Exception {
    Set<Object> seen = Collections.newSetFromMap(new IdentityHashMap<>());
    ArrayDeque<Object> open = new ArrayDeque<>();
    open.add(x);
    int elements = 0;
    while (!open.isEmpty()) {
      Object o = open.remove();
      if (!seen.add(o)) {
        continue;
      }
      if (o.getClass().isArray()) {
        elements += Array.getLength(o);
        for (int i = 0; i < Array.getLength(o) && !o.getClass().getComponentType().isPrimitive(); i++) {
          open.add(Array.get(o, i));
        }
        continue;
      }
      for (Field f : o.getClass().getDeclaredFields()) {
        if (!Modifier.isStatic(f.getModifiers())) {
          elements++;
          f.setAccessible(true);
          if (!f.getType().isPrimitive()) {
            open.add(f.get(o));
          }
        }
      }
    }
    System.out.println("an object is " + seen.size() + " objects with " + elements + " fields and elements");
    C.due("objects", seen.size() <= 120);
    C.due("fields and elements", elements <= 5000);
  }

  private static int all(NorthRoad x) {
    int sum = x.tell(0, 8) + x.bar(0, 1, 1) + x.undo() + x.anew() + x.rate(0, 9) + x.image(0) + x.back(0);
    sum += x.row(0, 3, 6) + x.write(0, 0, 9) + x.paste(0, 0, 0, 1, 2) + x.row(1, 0, 3) + x.write(1, 1, 1);
    sum += x.fair(0) + x.leave(0) + x.laws(1) + x.best() + x.ways() + x.cover() + x.needed() + x.pair() + x.law();
    sum += x.mean(0) + x.drawn(7, 1) + x.luck(7, 20, 1) + x.halt() + x.halted() + x.ends() + x.end(0) + x.fault(1);
    for (int r = 0; r < 6; r++) {
      sum += x.rider(r, 1) + x.within(r, 3) + x.place(r, 3) + x.home(r) + x.cars(r) + x.rides(r) + x.waits(r);
      sum += x.meets(r, 0) + x.missed(r) + x.plan(r) + x.worth(r) + x.stand(r) + x.sign(r) + x.signs(r);
      sum += x.share(r, 0) + x.house(1, r) + x.least(1, r) + x.most(1, r) + x.ask(1, r) + x.leaves(1, r);
      sum += x.odds(1, r, 0) + x.rests(r, 0) + x.gets(r, 1, 0, 0) + x.by(r) + x.count(r);
      sum += x.at(r, 3) + x.aboard(r, 3) + x.runs(r, 3) + x.arrives(r) + x.stands(r) + x.stuck(r) + x.fullest(r);
      sum += x.alone(r) + x.further(r, 3) + x.chance(r, 0) + x.far(r, 1) + x.car(r, 1) + x.waiting(r, 3);
      sum += x.done(r) + x.loads(r) + x.homes(r) + x.crowd(r) + x.empty(r) + x.idle(r) + x.lead(r);
    }
    sum += x.feed(0x726f6164, 0, 0, 0, 0) + x.road();
    return sum;
  }
}
