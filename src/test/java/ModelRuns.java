import java.lang.reflect.InvocationTargetException;
import java.lang.reflect.Method;
import java.util.ArrayList;
import java.util.HashMap;
import java.util.List;
import java.util.Map;
import java.util.Random;

/** Random runs of calls on LastCatch and on NaiveModel; every answer and every exception must be the same. */
public final class ModelRuns {
  private static final Map<String, Method> OURS = new HashMap<>();
  private static final Map<String, Method> MODELS = new HashMap<>();
  private static final Map<String, Integer> ANSWERS = new HashMap<>();

  private final Random dice;
  private final LastCatch ours = new LastCatch();
  private final NaiveModel model = new NaiveModel();
  private final List<String> told = new ArrayList<>();
  private int calls = 0;

  private ModelRuns(long seed) { dice = new Random(seed); }

  public static void main(String[] args) throws Exception {
    for (Method m : LastCatch.class.getDeclaredMethods()) if (java.lang.reflect.Modifier.isPublic(m.getModifiers())) OURS.put(m.getName(), m);
    for (Method m : NaiveModel.class.getDeclaredMethods()) if (OURS.containsKey(m.getName())) MODELS.put(m.getName(), m);
    int runs = args.length > 0 ? Integer.parseInt(args[0]) : 1500;
    long from = args.length > 1 ? Long.parseLong(args[1]) : 0;
    for (long seed = from; seed < from + runs; seed++) {
      ModelRuns run = new ModelRuns(seed);
      try {
        run.play();
      } catch (IllegalStateException e) {
        System.out.println("run " + seed + ": " + e.getMessage());
        int last = run.told.size();
        for (String t : run.told.subList(Math.max(0, last - 40), last)) System.out.println("   " + t);
        System.exit(1);
      }
    }
    if (args.length > 2) ANSWERS.entrySet().stream().sorted(Map.Entry.comparingByKey()).forEach(e -> System.out.println(e.getKey() + " " + e.getValue()));
    System.out.println(runs + " random runs answer as the model does");
  }

  private Object ask(Method m, Object on, Object[] args) throws Exception {
    try {
      Object o = m.invoke(on, args);
      return o instanceof Boolean ? ((Boolean) o ? 1 : 0) : o;
    } catch (InvocationTargetException e) {
      return e.getCause().getClass().getName();
    }
  }

  private void call(String name, Object... args) throws Exception {
    if (++calls > 512) return;
    Object want = ask(MODELS.get(name), model, args);
    Object got = ask(OURS.get(name), ours, args);
    String text = name + java.util.Arrays.toString(args) + " = " + want;
    told.add(text);
    ANSWERS.merge(name + (want == null ? "" : want instanceof Integer ? ((Integer) want < 0 ? " neg" : (Integer) want == 0 ? " 0" : " more") : " " + want), 1, Integer::sum);
    if (want == null ? got != null : !want.equals(got)) throw new IllegalStateException(text + " but we say " + got);
  }

  // ---- what is told

  private int n(int below) { return dice.nextInt(below); }
  private boolean oneIn(int k) { return n(k) == 0; }
  private String pick(String... of) { return of[n(of.length)]; }
  private String kindWord() { return pick("tell", "god", "horse", "saying"); }
  private int near() { return oneIn(4) ? n(25) : pick4(); }
  private int pick4() { return new int[] {0, 1, 5, 6}[n(4)]; }

  private String seaLine() {
    StringBuilder b = new StringBuilder();
    switch (n(12)) {
      case 0: case 1: {
        int c = n(25);
        b.append("current ").append(c);
        int many = 1 + n(oneIn(3) ? 27 - c : Math.min(7, 25 - c));
        for (int i = 0; i < many; i++) b.append(' ').append(pick("left", "right", "up", "down", "still", "left", "up"));
        break;
      }
      case 2: case 3: case 4: case 5:
        b.append("fish ").append(kindWord()).append(" at ").append(near()).append(" size ").append(1 + n(9));
        if (oneIn(2)) b.append(" fresh ").append(n(100));
        break;
      case 6: case 7:
        b.append("boat hold ").append(1 + n(oneIn(2) ? 9 : 3));
        if (oneIn(2)) b.append(" at ").append(near());
        if (oneIn(2)) b.append(" heads ").append(near());
        break;
      case 8: case 9:
        b.append("buyer ").append(kindWord()).append(" money ").append(n(oneIn(2) ? 1000 : 60));
        if (oneIn(2)) b.append(" least ").append(n(oneIn(3) ? 100 : 60));
        if (oneIn(2)) b.append(" keen ").append(n(101));
        break;
      case 10: {
        b.append("dead ").append(kindWord());
        for (int i = n(3); i > 0; i--) b.append(' ').append(kindWord());
        b.append(" breath ").append(n(oneIn(4) ? 100 : 20));
        break;
      }
      default: b.append(oneIn(2) ? "ice " : "day ").append(n(oneIn(2) ? 1000 : 6)); break;
    }
    return b.toString();
  }

  private String sum() {
    StringBuilder b = new StringBuilder(part());
    while (oneIn(3)) b.append(pick("+", " + ")).append(part());
    return b.toString();
  }
  private String part() { return oneIn(3) ? "" + n(oneIn(2) ? 100 : 9) : pick("fish", "kind", "size", "fresh", "ice", "lying", "day"); }
  private String atom(int deep) {
    if (deep < 8 && oneIn(4)) return "not " + atom(deep + 1);
    if (deep < 8 && oneIn(4)) return pick("(", "( ") + cond(deep + 1) + pick(")", " )");
    return oneIn(2) ? pick("iced", "slab", "big") : sum() + pick("<", ">", " < ", " > ") + sum();
  }
  private String all(int deep) { return oneIn(3) ? atom(deep) + " and " + atom(deep) : atom(deep); }
  private String cond(int deep) { return oneIn(3) ? all(deep) + " or " + all(deep) : all(deep); }
  private String lawLine() { return pick("keep ", "turn ", "dear ") + n(oneIn(3) ? 100 : 8) + (oneIn(3) ? "" : " if " + cond(0)); }

  private static final String JUNK = "abtk09 ;()<>+-A~\u00e9\u0000\n\t";

  private String spoil(String text) {
    StringBuilder b = new StringBuilder(text);
    for (int i = n(2); i >= 0; i--) {
      int at = n(b.length() + 1);
      switch (n(5)) {
        case 0: if (at < b.length()) b.deleteCharAt(at); break;
        case 1: b.insert(at, JUNK.charAt(n(JUNK.length()))); break;
        case 2: if (at < b.length()) b.setCharAt(at, JUNK.charAt(n(JUNK.length()))); break;
        case 3: b.setLength(at); break;
        default: b.insert(at, pick(" not ", " ( ", ";", " ", "  ", "7", " and ", " or ", " left", " fish", " tell")); break;
      }
    }
    return b.toString();
  }

  private void tellText(String text) throws Exception {
    tellBytes(text.getBytes(java.nio.charset.StandardCharsets.ISO_8859_1));
  }

  private void tellBytes(byte[] bytes) throws Exception {
    int length = Math.min(400, bytes.length);
    if (!oneIn(30)) call("end", 0);
    byte[] padded = java.util.Arrays.copyOf(bytes, Math.max(20, (length + 19) / 20 * 20));
    java.nio.ByteBuffer b = java.nio.ByteBuffer.wrap(padded);
    for (int i = 0; i < padded.length; i += 20) call("feed", b.getInt(), b.getInt(), b.getInt(), b.getInt(), b.getInt());
    if (length % 20 != 0 && !oneIn(60)) call("end", length);
  }

  private void sea(int lines) throws Exception {
    StringBuilder b = new StringBuilder();
    for (int i = 0; i < lines; i++) b.append(i > 0 ? pick(";", "; ", " ; ") : "").append(seaLine());
    String t = oneIn(4) ? spoil(b.toString()) : b.toString();
    tellText(oneIn(9) ? "  " + t + " " : t);
    call("waters");
    call("fault");
  }

  /** A sea in which much lies on the slab soon. */
  private void fullSea() throws Exception {
    StringBuilder b = new StringBuilder("boat hold " + (1 + n(9)));
    if (oneIn(2)) b.append(";boat hold ").append(1 + n(3)).append(" at ").append(near()).append(oneIn(2) ? " heads " + near() : "");
    for (int i = 2 + n(7); i > 0; i--) b.append(";fish ").append(kindWord()).append(" at ").append(oneIn(3) ? near() : 0).append(" size ").append(1 + n(oneIn(2) ? 9 : 3)).append(oneIn(2) ? " fresh " + n(100) : "");
    for (int i = n(4); i > 0; i--) b.append(";current ").append(n(25)).append(pick(" left", " up", " down right", " up left up"));
    tellText(b.toString());
    call("waters");
    b.setLength(0);
    for (int i = 1 + n(5); i > 0; i--) b.append(b.length() > 0 ? ";" : "").append("buyer ").append(kindWord()).append(" money ").append(oneIn(2) ? n(1000) : n(60)).append(oneIn(2) ? " keen " + n(60) : "").append(oneIn(9) ? " least " + n(90) : "");
    tellText(b.toString());
    call("waters");
    b.setLength(0);
    for (int i = 1 + n(6); i > 0; i--) b.append(b.length() > 0 ? ";" : "").append("dead ").append(pick("tell", "god", "tell god", "horse saying god", "saying tell", "horse", "god horse tell saying")).append(" breath ").append(n(oneIn(4) ? 40 : 15));
    tellText(b.toString());
    call("waters");
  }

  private void law() throws Exception {
    StringBuilder b = new StringBuilder();
    int lines = oneIn(9) ? 13 : 1 + n(5);
    for (int i = 0; i < lines; i++) b.append(i > 0 ? pick(";", "; ") : "").append(lines > 9 ? pick("keep 1", "dear 2", "turn 3") : lawLine());
    tellText(oneIn(4) ? spoil(b.toString()) : b.toString());
    call("law");
    call("fault");
  }

  private void rows() throws Exception {
    int day = n(100), much = n(20);
    byte[] t = new byte[oneIn(9) ? n(44) : 2 * n(5)];
    for (int i = 0; i < t.length; i++) {
      if (i % 2 == 0) t[i] = (byte) n(100);
      else t[i] = (byte) Math.max(0, 99 - Math.max(0, t[i - 1] - day) * much);
      if (oneIn(60)) t[i] = (byte) n(256);
    }
    tellBytes(t);
    if (oneIn(2)) call("ask"); else call("turned", oneIn(2));
    call("fault");
  }

  // ---- a run

  private int among(int many) { return oneIn(12) ? n(many + 2) - 1 : oneIn(4) ? -1 : n(Math.max(1, many)); }
  private int aFish() { return among(model.count(0)); }
  private int aBoat() { return among(model.count(1)); }
  private int aBuyer() { return among(model.count(2)); }

  private void play() throws Exception {
    if (!oneIn(4)) {
      fullSea();
    } else {
      if (!oneIn(9)) sea(3 + n(7));
      if (!oneIn(3)) sea(3 + n(6));
    }
    if (!oneIn(3)) law();
    int until = 60 + n(450);
    while (calls < until) {
      if (oneIn(25)) wild(); else if (oneIn(3)) act(); else look();
    }
  }

  private static final int[] WILD = {Integer.MIN_VALUE, Integer.MIN_VALUE + 1, -100, -2, -1, 0, 1, 2, 3, 4, 5, 6, 8, 9, 10, 12, 13, 20, 24, 25, 32, 60, 61, 99, 100, 400, 999, 1000, Integer.MAX_VALUE - 1, Integer.MAX_VALUE};

  /** Any call of the face with any numbers. */
  private void wild() throws Exception {
    List<String> names = new ArrayList<>(OURS.keySet());
    java.util.Collections.sort(names);
    String name = names.get(n(names.size()));
    Class<?>[] types = OURS.get(name).getParameterTypes();
    Object[] args = new Object[types.length];
    boolean any = oneIn(2);
    for (int i = 0; i < args.length; i++) args[i] = types[i] == boolean.class ? (Object) oneIn(2) : (Object) (any || oneIn(3) ? WILD[n(WILD.length)] : n(5));
    call(name, args);
  }

  private void act() throws Exception {
    switch (n(22)) {
      case 0: if (oneIn(2)) sea(oneIn(9) ? 15 : 1 + n(4)); else tellText(oneIn(2) ? "" : "  "); if (oneIn(2)) call("waters"); break;
      case 1: if (oneIn(2)) law(); break;
      case 2: case 3: call("days", oneIn(20) ? n(70) - 3 : oneIn(2) ? 1 : 1 + n(4)); break;
      case 4: case 5: call("heads", aBoat(), oneIn(9) ? n(28) - 2 : near()); break;
      case 6: if (oneIn(2)) for (int i = 0; i < 14; i++) call("undo"); break;
      case 7: call("ice", n(oneIn(9) ? 1200 : 8) - 1); break;
      case 8: call("sponge", aFish(), n(oneIn(9) ? 110 : 30)); break;
      case 9: call("pay", aBuyer(), n(oneIn(9) ? 1100 : 60)); break;
      case 10: case 11: call("tell", oneIn(9) ? n(6) - 1 : n(4), oneIn(9) ? n(28) - 1 : oneIn(2) ? 0 : near(), oneIn(9) ? n(12) : 1 + n(9)); break;
      case 12: call("release", aFish()); break;
      case 13: call("current", n(26) - (oneIn(9) ? 1 : 0), n(6) - (oneIn(9) ? 1 : 0)); break;
      case 14: case 15: call("sell", aFish(), aBuyer()); break;
      case 16: call("seed", dice.nextInt()); break;
      case 17: case 18: call("undo"); break;
      case 19: if (oneIn(3)) call("image"); break;
      case 20: if (oneIn(3)) call("back"); break;
      default: call("feed", n(9), dice.nextInt(), 0, 0, 0); if (oneIn(2)) call("end", n(30) - 2); break;
    }
  }

  private void look() throws Exception {
    switch (n(40)) {
      case 0: call("cell", n(27) - 1, n(6) - 1); break;
      case 1: case 2: case 3: call("fish", aFish(), n(12) - 1); break;
      case 4: call("boat", aBoat(), n(6) - 1); break;
      case 5: case 6: call("buyer", aBuyer(), n(8) - 1); break;
      case 7: call("dead", n(8) - 1, n(4) - 1); break;
      case 8: call("where", aFish(), n(oneIn(9) ? 64 : 9) - 1); break;
      case 9: call("meets", aBoat(), aFish()); break;
      case 10: call("lost"); break;
      case 11: call("haul", aBoat(), n(6) - (oneIn(9) ? 1 : 0)); break;
      case 12: call("first", aBoat(), n(6) + (oneIn(9) ? 1 : 0)); break;
      case 13: call("eddy"); break;
      case 14: case 15: call("whose", aFish()); break;
      case 16: call("parted", n(103) - 1); break;
      case 17: call("fewest", n(103) - 1); break;
      case 18: if (oneIn(3)) rows(); break;
      case 19: case 20: call("sale", aBuyer()); break;
      case 21: call("without"); break;
      case 22: case 23: call("order", n(11) - 2); break;
      case 24: if (oneIn(9)) call("chase", n(23) - 1, n(15) - 1); else call("chase", n(9), n(10)); break;
      case 25: case 26: call("pairs", aFish()); break;
      case 27: call("rests", aBoat(), aFish()); break;
      case 28: call("odds", n(7) - 1); break;
      case 29: call(pick("freshest", "dearest")); break;
      case 30: call("kind", n(6) - 1); break;
      case 31: call("twins"); break;
      case 32: call(pick("slab", "sea", "gone")); break;
      case 33: call("spoils", n(oneIn(9) ? 64 : 12) - 1); break;
      case 34: call("trial", n(oneIn(9) ? 64 : 9) - 1, oneIn(2)); break;
      case 35: call("span", n(oneIn(9) ? 64 : 9) - 1, oneIn(2)); break;
      case 36: call("led", aFish(), oneIn(2)); break;
      case 37: call("log", n(oneIn(9) ? 64 : 9) - 1, n(7) - 1); break;
      default: call("count", n(14) - 1); break;
    }
  }
}
