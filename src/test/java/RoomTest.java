import java.lang.reflect.Array;
import java.lang.reflect.Field;
import java.lang.reflect.Modifier;
import java.util.ArrayDeque;
import java.util.Collections;
import java.util.IdentityHashMap;
import java.util.Set;

/** How much one object holds: all its rows are made with it, and calls use them again. */
public final class RoomTest extends Checks {
  /** All objects and arrays that can be reached; those of a law apart, for each right law makes a new one. */
  private static Set<Object> reached(Object from, boolean laws) throws IllegalAccessException {
    Set<Object> seen = Collections.newSetFromMap(new IdentityHashMap<>());
    ArrayDeque<Object> open = new ArrayDeque<>();
    open.add(from);
    while (!open.isEmpty()) {
      Object o = open.remove();
      if (o instanceof String || !laws && o.getClass().getSimpleName().equals("Law") || !seen.add(o)) continue;
      if (o.getClass().isArray()) {
        for (int i = 0; !o.getClass().getComponentType().isPrimitive() && i < Array.getLength(o); i++) if (Array.get(o, i) != null) open.add(Array.get(o, i));
        continue;
      }
      for (Field f : o.getClass().getDeclaredFields()) {
        if (Modifier.isStatic(f.getModifiers()) || f.getType().isPrimitive()) continue;
        f.setAccessible(true);
        if (f.get(o) != null) open.add(f.get(o));
      }
    }
    return seen;
  }

  private static int elements(Set<Object> all) {
    int sum = 0;
    for (Object o : all) {
      if (o.getClass().isArray()) { sum += Array.getLength(o); continue; }
      for (Field f : o.getClass().getDeclaredFields()) if (!Modifier.isStatic(f.getModifiers())) sum++;
    }
    return sum;
  }

  public static void main(String[] args) throws Exception {
    about = "room";
    LastCatch x = new LastCatch();
    Set<Object> all = reached(x, true);
    is("at most 1000 objects: " + all.size(), all.size() <= 1000, true);
    is("at most 20000 elements: " + elements(all), elements(all) <= 20000, true);
    Set<Object> before = reached(x, false);
    sea(x, "boat hold 9;boat hold 9 at 24 heads 3;" + times(8, "fish god at 0 size 3", ";"), times(5, "buyer god money 60 keen 20", ";"), times(6, "dead god tell breath 9", ";"));
    for (int i = 0; i < 12; i++) {
      law(x, "keep 4;dear " + i);
      x.days(1);
      x.fish(0, 8);
      x.haul(0, 5);
      x.first(1, 5);
      x.whose(-1);
      x.parted(9);
      x.fewest(9);
      tape(x, 30, 75).turned(true);
      tape(x, 30, 75).ask();
      x.sale(-1);
      x.order(-1);
      x.chase(20, 12);
      x.pairs(-1);
      x.span(60, true);
      x.image();
      x.ice(1);
      x.undo();
      x.heads(1, i);
      x.back();
    }
    is("no call makes rows anew", before.equals(reached(x, false)), true);
    System.out.println(all.size() + " objects, " + elements(all) + " elements, " + wrong + " wrong");
    if (wrong != 0) System.exit(1);
  }
}
