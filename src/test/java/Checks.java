import java.nio.charset.StandardCharsets;
import java.util.Arrays;
import java.util.NoSuchElementException;
import java.util.concurrent.Callable;

/** What the tests have in common: how they ask, how they tell a tape, and a count of what is wrong. */
class Checks {
  static int wrong = 0;
  static int checks = 0;
  static String about = "";

  static final Class<?> INDEX = IndexOutOfBoundsException.class;
  static final Class<?> ARGUMENT = IllegalArgumentException.class;
  static final Class<?> STATE = IllegalStateException.class;
  static final Class<?> ELEMENT = NoSuchElementException.class;
  static final Class<?> UNSUPPORTED = UnsupportedOperationException.class;

  static void is(String what, long got, long want) {
    checks++;
    if (got != want) {
      wrong++;
      System.out.println(about + ": " + what + " answered " + got + ", due is " + want);
    }
  }

  static void is(String what, boolean got, boolean want) { is(what, got ? 1 : 0, want ? 1 : 0); }

  static void fails(String what, Class<?> with, Callable<?> call) {
    checks++;
    String got = "nothing";
    try {
      call.call();
    } catch (Exception e) {
      if (e.getClass() == with) return;
      got = e.getClass().getName();
    }
    wrong++;
    System.out.println(about + ": " + what + " throws " + got + ", due is " + with.getName());
  }

  // ---- helpers

  static LastCatch tape(LastCatch x, byte... bytes) {
    x.end(0);
    byte[] p = Arrays.copyOf(bytes, (bytes.length + 19) / 20 * 20);
    java.nio.ByteBuffer b = java.nio.ByteBuffer.wrap(p);
    for (int i = 0; i < p.length; i += 20) x.feed(b.getInt(), b.getInt(), b.getInt(), b.getInt(), b.getInt());
    x.end(bytes.length);
    return x;
  }
  static LastCatch tape(LastCatch x, String text) { return tape(x, text.getBytes(StandardCharsets.ISO_8859_1)); }
  static LastCatch tape(LastCatch x, int... bytes) {
    byte[] b = new byte[bytes.length];
    for (int i = 0; i < b.length; i++) b[i] = (byte) bytes[i];
    return tape(x, b);
  }
  static LastCatch sea(LastCatch x, String... texts) { for (String t : texts) tape(x, t).waters(); return x; }
  static LastCatch sea(String... texts) { return sea(new LastCatch(), texts); }
  static LastCatch law(LastCatch x, String text) { tape(x, text).law(); return x; }
  /** A sea whose fish all lie on the slab, a day later. */
  static LastCatch lying(String fish, String... more) {
    LastCatch x = sea("boat hold 9;" + fish);
    x.days(1);
    return sea(x, more);
  }
  static void wrongSea(String text, int at) {
    LastCatch x = new LastCatch();
    fails("waters of " + text, ARGUMENT, () -> tape(x, text).waters());
    is("fault of " + text, x.fault(), at);
    is("texts behind " + text, x.count(4), 0);
  }
  static void wrongLaw(String text, int at) {
    LastCatch x = new LastCatch();
    fails("law of " + text, ARGUMENT, () -> tape(x, text).law());
    is("fault of " + text, x.fault(), at);
    is("lines behind " + text, x.count(5), -1);
  }
  static void log(LastCatch x, int ago, int... row) {
    for (int i = 0; i < row.length; i++) is("log(" + ago + ", " + i + ")", x.log(ago, i), row[i]);
  }
  static String times(int n, String of, String between) {
    StringBuilder b = new StringBuilder(of);
    for (int i = 1; i < n; i++) b.append(between).append(of);
    return b.toString();
  }
}
