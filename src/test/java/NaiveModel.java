import java.util.ArrayList;
import java.util.Arrays;
import java.util.HashMap;
import java.util.HashSet;
import java.util.LinkedList;
import java.util.List;
import java.util.Map;
import java.util.NoSuchElementException;
import java.util.Set;
import java.util.TreeSet;

/** The document told once more, slowly: every best way is found by trying all ways. */
final class NaiveModel {
  // ---- state

  static final class F { int kind, size, fresh, place, cell = -1, boat = -1;
    F copy() { F f = new F(); f.kind = kind; f.size = size; f.fresh = fresh; f.place = place; f.cell = cell; f.boat = boat; return f; } }
  static final class B { int cell, heads = -1, hold; B copy() { B b = new B(); b.cell = cell; b.heads = heads; b.hold = hold; return b; } }
  static final class C { int want, money, least, keen = 50; C copy() { C c = new C(); c.want = want; c.money = money; c.least = least; c.keen = keen; return c; } }
  static final class D { int said, breath; }

  static final class S {
    int[] current = new int[25];
    List<F> fish = new ArrayList<>();
    List<B> boats = new ArrayList<>();
    List<C> buyers = new ArrayList<>();
    List<D> dead = new ArrayList<>();
    int ice = 10, till, day, seed = 1, texts;
    List<LawLine> law = null;
    List<int[]> log = new ArrayList<>();
    S() { Arrays.fill(current, 4); }
    S copy() {
      S s = new S();
      s.current = current.clone();
      for (F f : fish) s.fish.add(f.copy());
      for (B b : boats) s.boats.add(b.copy());
      for (C c : buyers) s.buyers.add(c.copy());
      s.dead.addAll(dead);
      s.ice = ice; s.till = till; s.day = day; s.seed = seed; s.texts = texts; s.law = law;
      s.log.addAll(log);
      return s;
    }
  }

  interface Cond { boolean is(S s, int f); }
  interface Num { int of(S s, int f); }
  static final class LawLine { String sort; int n; Cond cond; }
  static final class Wrong extends Exception { static final long serialVersionUID = 1; final int at; Wrong(int at) { this.at = at; } }

  private S s = new S();
  private S kept = null;
  private final LinkedList<S> past = new LinkedList<>();
  private final List<Integer> tape = new ArrayList<>();
  private int fault = -1;

  // ---- tape

  int feed(int a, int b, int c, int d, int e) {
    if (tape.size() + 20 > 400) return -1;
    for (int n : new int[] {a, b, c, d, e}) for (int k = 3; k >= 0; k--) tape.add(n >> (8 * k) & 255);
    return tape.size();
  }
  boolean end(int n) {
    if (n < 0 || n > tape.size()) return false;
    while (tape.size() > n) tape.remove(tape.size() - 1);
    return true;
  }

  // ---- texts

  static final class Token { String text; int at; boolean word, number; }

  static final class Tokens {
    final List<Token> list = new ArrayList<>();
    int next = 0;
    final int length;
    Tokens(List<Integer> bytes) {
      length = bytes.size();
      StringBuilder b = new StringBuilder();
      for (int x : bytes) b.append((char) x);
      java.util.regex.Matcher m = java.util.regex.Pattern.compile("[a-z]+|[0-9]+|[^ ]", java.util.regex.Pattern.DOTALL).matcher(b);
      while (m.find()) {
        Token t = new Token();
        t.text = m.group(); t.at = m.start();
        t.word = t.text.matches("[a-z]+"); t.number = t.text.matches("[0-9]+");
        list.add(t);
      }
    }
    int at() { return next < list.size() ? list.get(next).at : length; }
    boolean end() { return next == list.size(); }
    String look() { return end() ? "" : list.get(next).text; }
    boolean take(String w) { if (!end() && look().equals(w)) { next++; return true; } return false; }
    void need(String w) throws Wrong { if (!take(w)) throw new Wrong(at()); }
    boolean isNumber() { return !end() && list.get(next).number; }
    boolean isWord() { return !end() && list.get(next).word; }
    int number(int lo, int hi) throws Wrong {
      if (!isNumber() || look().length() > 3) throw new Wrong(at());
      int v = Integer.parseInt(look());
      if (v < lo || v > hi) throw new Wrong(at());
      next++;
      return v;
    }
    int oneOf(String... words) throws Wrong {
      for (int i = 0; i < words.length; i++) if (take(words[i])) return i;
      throw new Wrong(at());
    }
  }

  private static final String[] KIND = {"tell", "god", "horse", "saying"};

  private List<Integer> useUp() { List<Integer> t = new ArrayList<>(tape); tape.clear(); return t; }

  int waters() {
    Tokens t = new Tokens(useUp());
    S w = s.copy();
    try {
      if (!t.end()) {
        for (int line = 1; ; line++) {
          if (line > 14) throw new Wrong(t.at());
          seaLine(t, w);
          if (t.end()) break;
          t.need(";");
        }
      }
    } catch (Wrong e) { fault = e.at; throw new IllegalArgumentException(); }
    fault = -1;
    if (s.texts == 12) throw new UnsupportedOperationException();
    w.texts++;
    s = w;
    past.clear();
    return s.texts;
  }

  private static void seaLine(Tokens t, S w) throws Wrong {
    int begin = t.at();
    switch (t.oneOf("current", "fish", "boat", "buyer", "dead", "ice", "day")) {
      case 0: {
        int c = t.number(0, 24);
        w.current[c++] = t.oneOf("left", "right", "up", "down", "still");
        while (t.isWord()) { if (c > 24) throw new Wrong(t.at()); w.current[c++] = t.oneOf("left", "right", "up", "down", "still"); }
        break;
      }
      case 1: {
        if (w.fish.size() == 8) throw new Wrong(begin);
        F f = new F();
        f.kind = t.oneOf(KIND); t.need("at"); f.cell = t.number(0, 24); t.need("size"); f.size = t.number(1, 9);
        f.fresh = t.take("fresh") ? t.number(0, 99) : 90;
        w.fish.add(f);
        break;
      }
      case 2: {
        if (w.boats.size() == 3) throw new Wrong(begin);
        B b = new B();
        t.need("hold"); b.hold = t.number(1, 9);
        if (t.take("at")) b.cell = t.number(0, 24);
        if (t.take("heads")) b.heads = t.number(0, 24);
        w.boats.add(b);
        break;
      }
      case 3: {
        if (w.buyers.size() == 5) throw new Wrong(begin);
        C c = new C();
        c.want = t.oneOf(KIND); t.need("money"); c.money = t.number(0, 999);
        if (t.take("least")) c.least = t.number(0, 99);
        if (t.take("keen")) c.keen = t.number(0, 100);
        w.buyers.add(c);
        break;
      }
      case 4: {
        if (w.dead.size() == 6) throw new Wrong(begin);
        D d = new D();
        d.said = 1 << t.oneOf(KIND);
        while (!t.take("breath")) {
          int at = t.at();
          int k = t.oneOf(KIND);
          if ((d.said >> k & 1) == 1) throw new Wrong(at);
          d.said |= 1 << k;
        }
        d.breath = t.number(0, 99);
        w.dead.add(d);
        break;
      }
      case 5: w.ice = t.number(0, 999); break;
      default: w.day = t.number(0, 999); break;
    }
  }

  int law() {
    Tokens t = new Tokens(useUp());
    List<LawLine> lines = new ArrayList<>();
    try {
      if (!t.end()) {
        do {
          if (lines.size() == 12) throw new Wrong(t.at());
          LawLine l = new LawLine();
          l.sort = new String[] {"keep", "turn", "dear"}[t.oneOf("keep", "turn", "dear")];
          l.n = t.number(0, 99);
          l.cond = t.take("if") ? cond(t, 0) : (x, f) -> true;
          lines.add(l);
          if (!t.end() && !t.look().equals(";")) throw new Wrong(t.at());
        } while (t.take(";"));
      }
    } catch (Wrong e) { fault = e.at; throw new IllegalArgumentException(); }
    fault = -1;
    s.law = lines;
    past.clear();
    return lines.size();
  }

  private static Cond cond(Tokens t, int deep) throws Wrong {
    Cond a = all(t, deep);
    while (t.take("or")) { Cond l = a; Cond r = all(t, deep); a = (x, f) -> l.is(x, f) || r.is(x, f); }
    return a;
  }
  private static Cond all(Tokens t, int deep) throws Wrong {
    Cond a = atom(t, deep);
    while (t.take("and")) { Cond l = a; Cond r = atom(t, deep); a = (x, f) -> l.is(x, f) && r.is(x, f); }
    return a;
  }
  private static Cond atom(Tokens t, int deep) throws Wrong {
    int at = t.at();
    if (t.take("not")) { if (deep == 6) throw new Wrong(at); Cond c = atom(t, deep + 1); return (x, f) -> !c.is(x, f); }
    if (t.take("(")) { if (deep == 6) throw new Wrong(at); Cond c = cond(t, deep + 1); t.need(")"); return c; }
    if (t.take("iced")) return (x, f) -> x.ice > 0;
    if (t.take("slab")) return (x, f) -> x.fish.get(f).place == 2;
    if (t.take("big")) return (x, f) -> x.fish.get(f).size >= 7;
    Num l = sum(t);
    int op = t.oneOf("<", ">");
    Num r = sum(t);
    return op == 0 ? (x, f) -> l.of(x, f) < r.of(x, f) : (x, f) -> l.of(x, f) > r.of(x, f);
  }
  private static Num sum(Tokens t) throws Wrong {
    List<Num> parts = new ArrayList<>();
    do parts.add(part(t)); while (t.take("+"));
    return (x, f) -> { int v = 0; for (Num n : parts) v += n.of(x, f); return v; };
  }
  private static Num part(Tokens t) throws Wrong {
    if (t.isNumber()) { int n = t.number(0, 999); return (x, f) -> n; }
    switch (t.oneOf("fish", "kind", "size", "fresh", "ice", "lying", "day")) {
      case 0: return (x, f) -> f;
      case 1: return (x, f) -> x.fish.get(f).kind;
      case 2: return (x, f) -> x.fish.get(f).size;
      case 3: return (x, f) -> x.fish.get(f).fresh;
      case 4: return (x, f) -> x.ice;
      case 5: return (x, f) -> (int) x.fish.stream().filter(q -> q.place == 2).count();
      default: return (x, f) -> x.day % 100;
    }
  }

  int fault() { return fault; }

  // ---- rules

  private static int lawSum(S x, String sort, int f) {
    int v = 0;
    if (x.law != null) for (LawLine l : x.law) if (l.sort.equals(sort) && l.cond.is(x, f)) v += l.n;
    return v;
  }
  private static int turns(S x, int f) { return Math.max(0, 5 + lawSum(x, "turn", f) - lawSum(x, "keep", f)); }
  private static int price(S x, int f) { F q = x.fish.get(f); return 2 * q.size + q.fresh / 10 + lawSum(x, "dear", f); }

  private static List<Integer> beside(int c) {
    int x = c % 5, y = c / 5;
    return Arrays.asList(x == 0 ? -1 : c - 1, x == 4 ? -1 : c + 1, y == 0 ? -1 : c - 5, y == 4 ? -1 : c + 5);
  }
  private static int drift(S x, int c) {
    if (x.current[c] == 4) return c;
    int to = beside(c).get(x.current[c]);
    return to < 0 ? c : to;
  }
  private static boolean may(S x, int b, int f) {
    F q = x.fish.get(f); C c = x.buyers.get(b);
    return q.place == 2 && q.kind == c.want && q.fresh >= c.least && price(x, f) <= c.money;
  }
  private static int choice(S x, int b) {
    int best = -1;
    for (int f = 0; f < x.fish.size(); f++)
      if (may(x, b, f) && (best < 0 || x.fish.get(f).fresh > x.fish.get(best).fresh)) best = f;
    return best;
  }
  private static void row(S x, int f, int what, int who) {
    x.log.add(new int[] {x.day, f, what, who, x.fish.get(f).fresh});
    if (x.log.size() > 60) x.log.remove(0);
  }
  private static void goneNow(F q) { q.place = 3; q.cell = -1; q.boat = -1; }

  private static int aDay(S x, boolean buying) {
    for (F q : x.fish) if (q.place == 0) q.cell = drift(x, q.cell);
    for (int b = 0; b < x.boats.size(); b++) {
      B t = x.boats.get(b);
      if (t.heads != -1) {
        int tx = t.heads % 5, ty = t.heads / 5, bx = t.cell % 5, by = t.cell / 5;
        if (tx != bx) bx += Integer.signum(tx - bx); else by += Integer.signum(ty - by);
        t.cell = 5 * by + bx;
        if (t.cell == t.heads) t.heads = -1;
      }
      for (int f = 0; f < x.fish.size(); f++) {
        F q = x.fish.get(f);
        int in = 0;
        for (F o : x.fish) if (o.place == 1 && o.boat == b) in++;
        if (q.place == 0 && q.cell == t.cell && in < t.hold) { q.place = 1; q.boat = b; q.cell = -1; row(x, f, 0, b); }
      }
      if (t.cell == 0) for (F q : x.fish) if (q.place == 1 && q.boat == b) { q.place = 2; q.boat = -1; }
    }
    S was = x.copy();
    for (int f = 0; f < x.fish.size(); f++) {
      F q = x.fish.get(f);
      if (q.place != 1 && q.place != 2) continue;
      q.fresh -= turns(was, f);
      if (q.fresh <= 0) { q.fresh = 0; goneNow(q); row(x, f, 1, -1); }
    }
    if (x.ice > 0) x.ice--;
    int bought = 0;
    if (buying) for (int b = 0; b < x.buyers.size(); b++) {
      x.seed = 1103515245 * x.seed + 12345;
      int draw = (x.seed >> 16) & 32767;
      if (draw % 100 >= x.buyers.get(b).keen) continue;
      int f = choice(x, b);
      if (f < 0) continue;
      handOver(x, f, b, 2);
      bought++;
    }
    if (x.day < 9999) x.day++;
    return bought;
  }
  private static void handOver(S x, int f, int b, int what) {
    int p = price(x, f);
    x.buyers.get(b).money -= p;
    x.till = Math.min(9999, x.till + p);
    goneNow(x.fish.get(f));
    row(x, f, what, b);
  }
  private S in(int n) { S x = s.copy(); for (int i = 0; i < n; i++) aDay(x, false); return x; }

  // ---- needs

  private void cellThere(int c) { if (c < 0 || c > 24) throw new IndexOutOfBoundsException(); }
  private void fishThere(int f) { if (f < 0 || f >= s.fish.size()) throw new IndexOutOfBoundsException(); }
  private void boatThere(int b) { if (b < 0 || b >= s.boats.size()) throw new IndexOutOfBoundsException(); }
  private void buyerThere(int b) { if (b < 0 || b >= s.buyers.size()) throw new IndexOutOfBoundsException(); }
  private void within(int n, int lo, int hi) { if (n < lo || n > hi) throw new IllegalArgumentException(); }
  private void can(boolean is) { if (!is) throw new IllegalStateException(); }
  private void act() { past.addLast(s.copy()); if (past.size() > 12) past.removeFirst(); }

  // ---- looks

  int cell(int c, int what) {
    cellThere(c);
    switch (what) {
      case 0: return s.current[c];
      case 1: return drift(s, c);
      case 2: { int v = 0; for (int f = 0; f < s.fish.size(); f++) if (s.fish.get(f).place == 0 && s.fish.get(f).cell == c) v += 1 << f; return v; }
      case 3: { int at = c; for (int i = 0; i < 100; i++) { at = drift(s, at); if (at == c) return 1; } return 0; }
      default: throw new NoSuchElementException();
    }
  }
  int fish(int f, int what) {
    fishThere(f);
    F q = s.fish.get(f);
    switch (what) {
      case 0: return q.kind;
      case 1: return q.size;
      case 2: return q.fresh;
      case 3: return q.place;
      case 4: return q.place == 0 ? q.cell : q.place == 1 ? s.boats.get(q.boat).cell : -1;
      case 5: return q.place == 1 ? q.boat : -1;
      case 6: return turns(s, f);
      case 7: return price(s, f);
      case 8: for (int n = 0; n <= 60; n++) if (in(n).fish.get(f).place != 0) return n; return -1;
      case 9: { int v = 0; for (int d = 0; d < s.dead.size(); d++) if ((s.dead.get(d).said & 1 << q.kind) != 0 && s.dead.get(d).breath >= q.size) v |= 1 << d; return v; }
      default: throw new NoSuchElementException();
    }
  }
  int boat(int b, int what) {
    boatThere(b);
    B t = s.boats.get(b);
    switch (what) {
      case 0: return t.cell;
      case 1: return t.heads;
      case 2: return t.hold;
      case 3: { int v = 0; for (int f = 0; f < s.fish.size(); f++) if (s.fish.get(f).place == 1 && s.fish.get(f).boat == b) v += 1 << f; return v; }
      default: throw new NoSuchElementException();
    }
  }
  private int allMoney() { int v = 0; for (C c : s.buyers) v += c.money; return v; }
  int buyer(int b, int what) {
    buyerThere(b);
    C c = s.buyers.get(b);
    switch (what) {
      case 0: return c.want;
      case 1: return c.money;
      case 2: return c.least;
      case 3: return c.keen;
      case 4: return choice(s, b);
      case 5: return allMoney() == 0 ? 0 : c.money * 100 / allMoney();
      default: throw new NoSuchElementException();
    }
  }
  int dead(int d, int what) {
    if (d < 0 || d >= s.dead.size()) throw new IndexOutOfBoundsException();
    switch (what) { case 0: return s.dead.get(d).said; case 1: return s.dead.get(d).breath; default: throw new NoSuchElementException(); }
  }

  // ---- acts

  int days(int n) { within(n, 1, 60); act(); int v = 0; for (int i = 0; i < n; i++) v += aDay(s, true); return v; }
  int heads(int b, int c) { boatThere(b); if (c != -1) cellThere(c); act(); int was = s.boats.get(b).heads; s.boats.get(b).heads = c; return was; }
  int ice(int n) { within(n, 1, 999); act(); return s.ice = Math.min(999, s.ice + n); }
  int sponge(int f, int n) { fishThere(f); within(n, 1, 99); can(s.fish.get(f).place == 2); act(); return s.fish.get(f).fresh = Math.min(99, s.fish.get(f).fresh + n); }
  int pay(int b, int n) { buyerThere(b); within(n, 1, 999); act(); return s.buyers.get(b).money = Math.min(999, s.buyers.get(b).money + n); }
  int tell(int k, int c, int z) {
    kindThere(k); cellThere(c); within(z, 1, 9); can(s.fish.size() < 8); act();
    F q = new F(); q.kind = k; q.cell = c; q.size = z; q.fresh = 90; s.fish.add(q);
    return s.fish.size() - 1;
  }
  private void kindThere(int k) { if (k < 0 || k > 3) throw new IndexOutOfBoundsException(); }
  int release(int f) {
    fishThere(f); F q = s.fish.get(f); can(q.place == 1 || q.place == 2); act();
    q = s.fish.get(f);
    q.cell = q.place == 2 ? 0 : s.boats.get(q.boat).cell; q.place = 0; q.boat = -1;
    return q.cell;
  }
  int current(int c, int n) { cellThere(c); within(n, 0, 4); act(); int was = s.current[c]; s.current[c] = n; return was; }
  int sell(int f, int b) { fishThere(f); buyerThere(b); can(s.fish.get(f).place == 2); int p = price(s, f); can(p <= s.buyers.get(b).money); act(); handOver(s, f, b, 3); return p; }

  // ---- ahead

  int where(int f, int n) { fishThere(f); within(n, 0, 60); F q = in(n).fish.get(f); return q.place == 0 ? q.cell : -1; }
  private int meet(int b, int f) {
    if (s.fish.get(f).place != 0) return -1;
    Set<Integer> can = new HashSet<>(); can.add(s.boats.get(b).cell);
    int at = s.fish.get(f).cell;
    for (int n = 0; n <= 60; n++) {
      if (can.contains(at)) return n;
      Set<Integer> more = new HashSet<>(can);
      for (int c : can) for (int o : beside(c)) if (o >= 0) more.add(o);
      can = more;
      at = drift(s, at);
    }
    return -1;
  }
  int meets(int b, int f) { boatThere(b); fishThere(f); return meet(b, f); }
  int lost() {
    int v = 0;
    for (int f = 0; f < s.fish.size(); f++) {
      boolean met = s.fish.get(f).place != 0;
      for (int b = 0; b < s.boats.size(); b++) met |= meet(b, f) >= 0;
      if (!met) v |= 1 << f;
    }
    return v;
  }
  private int[] hauled(int b, int n) {
    boatThere(b); within(n, 0, 5);
    int ways = 1;
    for (int i = 0; i < n; i++) ways *= 5;
    int best = -1, first = -1;
    for (int w = 0; w < ways; w++) {
      S x = s.copy();
      int at = x.boats.get(b).cell, div = ways, sum = 0;
      for (int i = 0; i < n && at >= 0; i++) {
        div /= 5;
        int move = w / div % 5;
        for (F q : x.fish) if (q.place == 0) q.cell = drift(x, q.cell);
        if (move != 4) at = beside(at).get(move);
        for (F q : x.fish) {
          int in = 0;
          for (F o : x.fish) if (o.place == 1 && o.boat == b) in++;
          if (q.place == 0 && q.cell == at && in < x.boats.get(b).hold) { q.place = 1; q.boat = b; sum += q.size; }
        }
      }
      if (at >= 0 && sum > best) { best = sum; first = n == 0 ? -1 : w / (ways / 5); }
    }
    return new int[] {best, first};
  }
  int haul(int b, int n) { return hauled(b, n)[0]; }
  int first(int b, int n) { return hauled(b, n)[1]; }
  int eddy() {
    int[] count = new int[25];
    for (int c = 0; c < 25; c++) {
      Set<Integer> seen = new TreeSet<>();
      int at = c;
      for (int i = 0; i < 60; i++) { seen.add(at); at = drift(s, at); }
      for (int o : seen) count[o]++;
    }
    int best = 0;
    for (int c = 0; c < 25; c++) if (count[c] > count[best]) best = c;
    return best;
  }

  // ---- the dead

  private int bestCount;
  private int[] bestTo;
  private void put(int f, int[] to, int[] left, int count) {
    if (count + s.fish.size() - f <= bestCount) return;
    if (f == s.fish.size()) { bestCount = count; bestTo = to.clone(); return; }
    F q = s.fish.get(f);
    for (int d = 0; q.place != 3 && d < s.dead.size(); d++) {
      if ((s.dead.get(d).said >> q.kind & 1) == 1 && left[d] >= q.size) {
        left[d] -= q.size; to[f] = d;
        put(f + 1, to, left, count + 1);
        left[d] += q.size; to[f] = -1;
      }
    }
    put(f + 1, to, left, count);
  }
  int whose(int f) {
    if (f != -1) fishThere(f);
    bestCount = -1;
    int[] to = new int[s.fish.size()];
    Arrays.fill(to, -1);
    put(0, to, s.dead.stream().mapToInt(d -> d.breath).toArray(), 0);
    return f == -1 ? bestCount : bestTo[f];
  }
  int parted(int n) {
    within(n, 0, 99);
    long[] w = new long[100];
    w[0] = 1;
    for (D d : s.dead) {
      long[] v = new long[100];
      for (int i = 0; i < 100; i++) for (int p = 0; p <= d.breath && i + p < 100; p++) v[i + p] += w[i];
      w = v;
    }
    return Math.toIntExact(w[n]);
  }
  int fewest(int n) {
    within(n, 0, 99);
    for (int many = 0; many <= s.dead.size(); many++) for (int set = 0; set < 64; set++) {
      if (set >> s.dead.size() != 0 || Integer.bitCount(set) != many) continue;
      int sum = 0;
      for (int d = 0; d < s.dead.size(); d++) if ((set >> d & 1) == 1) sum += s.dead.get(d).breath;
      if (sum >= n) return set;
    }
    return -1;
  }
  private static int freshOn(int day, int caught, int much) {
    int fresh = 99;
    for (int d = caught; d < day; d++) fresh = Math.max(0, fresh - much);
    return fresh;
  }
  private List<int[]> fitting() {
    List<Integer> t = useUp();
    if (t.size() > 40 || t.size() % 2 == 1) throw new IllegalArgumentException();
    for (int v : t) if (v > 99) throw new IllegalArgumentException();
    List<int[]> fit = new ArrayList<>();
    for (int much = 0; much < 20; much++) for (int day = 0; day < 100; day++) {
      boolean is = true;
      for (int i = 0; i < t.size(); i += 2) is &= freshOn(t.get(i), day, much) == t.get(i + 1);
      if (is) fit.add(new int[] {day, much});
    }
    return fit;
  }
  int turned(boolean first) {
    List<int[]> fit = fitting();
    if (!first) return fit.size();
    return fit.isEmpty() ? -1 : 100 * fit.get(0)[1] + fit.get(0)[0];
  }
  int ask() {
    List<int[]> fit = fitting();
    if (fit.size() < 2) return -1;
    int best = -1, least = 9999;
    for (int day = 0; day < 100; day++) {
      Map<Integer, Integer> parts = new HashMap<>();
      for (int[] p : fit) parts.merge(freshOn(day, p[0], p[1]), 1, Integer::sum);
      int most = parts.values().stream().max(Integer::compare).get();
      if (most < least) { least = most; best = day; }
    }
    return best;
  }

  // ---- slab

  private int bestSum;
  private int[] bestWay;
  private void sellWays(int b, int[] has, Set<Integer> used, int sum) {
    if (b == s.buyers.size()) { if (sum > bestSum) { bestSum = sum; bestWay = has.clone(); } return; }
    has[b] = -1;
    sellWays(b + 1, has, used, sum);
    for (int f = 0; f < s.fish.size(); f++) if (may(s, b, f) && used.add(f)) {
      has[b] = f;
      sellWays(b + 1, has, used, sum + price(s, f));
      used.remove(f);
    }
    has[b] = -1;
  }
  int sale(int b) {
    if (b != -1) buyerThere(b);
    bestSum = -1;
    sellWays(0, new int[s.buyers.size()], new HashSet<>(), 0);
    return b == -1 ? bestSum : bestWay[b];
  }
  int without() { int v = 0; for (int b = 0; b < s.buyers.size(); b++) if (choice(s, b) < 0) v |= 1 << b; return v; }
  private void orders(List<Integer> left, List<Integer> sold, int sum) {
    if (left.isEmpty()) { if (sum > bestSum) { bestSum = sum; bestWay = sold.stream().mapToInt(i -> i).toArray(); } return; }
    for (int i = 0; i < left.size(); i++) {
      int f = left.remove(i);
      int fresh = s.fish.get(f).fresh;
      for (int k = 0; k < sold.size(); k++) fresh = Math.max(0, fresh - turns(s, f));
      sold.add(f);
      orders(left, sold, sum + (fresh > 0 ? s.fish.get(f).size : 0));
      sold.remove(sold.size() - 1);
      left.add(i, f);
    }
  }
  int order(int k) {
    List<Integer> lie = new ArrayList<>();
    for (int f = 0; f < s.fish.size(); f++) if (s.fish.get(f).place == 2) lie.add(f);
    bestSum = -1;
    orders(lie, new ArrayList<>(), 0);
    return k == -1 ? bestSum : k >= 0 && k < bestWay.length ? bestWay[k] : -1;
  }
  private static int chased(int gap, boolean two, boolean three, int left) {
    if (gap <= 0) return 0;
    if (left == 0) return 1000;
    int most = -1;
    for (int c = 1; c <= 2; c++) {
      if (c == 2 && two) continue;
      int few = 1000;
      for (int h = 1; h <= 3; h += 2) {
        if (h == 3 && three) continue;
        few = Math.min(few, 1 + chased(gap + c - h, c == 2, h == 3, left - 1));
      }
      most = Math.max(most, few);
    }
    return Math.min(1000, most);
  }
  int chase(int g, int t) { within(g, 0, 20); within(t, 0, 12); int v = chased(g, false, false, t); return v > t ? -1 : v; }
  private void pairWays(int f, int[] with, int sum) {
    if (f == s.fish.size()) { if (sum > bestSum) { bestSum = sum; bestWay = with.clone(); } return; }
    if (with[f] != -1) { pairWays(f + 1, with, sum); return; }
    pairWays(f + 1, with, sum);
    F q = s.fish.get(f);
    for (int g = f + 1; q.place != 3 && g < s.fish.size(); g++) {
      F r = s.fish.get(g);
      if (with[g] != -1 || r.place == 3 || r.kind == q.kind) continue;
      with[f] = g; with[g] = f;
      pairWays(f + 1, with, sum + q.size + r.size);
      with[f] = -1; with[g] = -1;
    }
  }
  int pairs(int f) {
    if (f != -1) fishThere(f);
    bestSum = -1;
    int[] with = new int[s.fish.size()];
    Arrays.fill(with, -1);
    pairWays(0, with, 0);
    return f == -1 ? bestSum : bestWay[f];
  }
  int rests(int b, int f) {
    boatThere(b); fishThere(f);
    int z = s.fish.get(f).size, h = s.boats.get(b).hold;
    int[][] he = {{z, -h}, {1, 0}};
    int[][] it = {{-z, 1}, {2, 0}};
    int v = 0;
    for (int i = 0; i < 2; i++) for (int j = 0; j < 2; j++) if (he[1 - i][j] <= he[i][j] && it[i][1 - j] <= it[i][j]) v |= 1 << (2 * i + j);
    return v;
  }
  int odds(int n) { within(n, 0, 4); int v = 10000; for (int i = 0; i < n; i++) for (C c : s.buyers) v = v * (100 - c.keen) / 100; return v; }
  int freshest() { int v = -1; for (int f = 0; f < s.fish.size(); f++) if (s.fish.get(f).place == 2 && (v < 0 || s.fish.get(f).fresh > s.fish.get(v).fresh)) v = f; return v; }
  int dearest() { int v = -1; for (int f = 0; f < s.fish.size(); f++) if (s.fish.get(f).place == 2 && (v < 0 || price(s, f) > price(s, v))) v = f; return v; }
  int kind(int k) { kindThere(k); int v = 0; for (int f = 0; f < s.fish.size(); f++) if (s.fish.get(f).kind == k && s.fish.get(f).place != 3) v |= 1 << f; return v; }
  int twins() { int v = 0; for (int f = 0; f < s.fish.size(); f++) for (int g = f + 1; g < s.fish.size(); g++) if (s.fish.get(f).kind == s.fish.get(g).kind && s.fish.get(f).size == s.fish.get(g).size) v++; return v; }
  private static int at(S x, int place) { int v = 0; for (int f = 0; f < x.fish.size(); f++) if (x.fish.get(f).place == place) v |= 1 << f; return v; }
  int slab() { return at(s, 2); }
  int sea() { return at(s, 0); }
  int gone() { return at(s, 3); }
  int spoils(int n) { within(n, 0, 60); return at(in(n), 3) & ~at(s, 3); }
  int trial(int n, boolean gone) { within(n, 0, 60); S x = s.copy(); for (int i = 0; i < n; i++) aDay(x, true); return gone ? Integer.bitCount(at(x, 3)) : x.till; }
  int span(int n, boolean most) {
    within(n, 0, 60);
    TreeSet<Integer> tills = new TreeSet<>();
    for (int k = 1; k <= 6; k++) { S x = s.copy(); x.seed = k; for (int i = 0; i < n; i++) aDay(x, true); tills.add(x.till); }
    return most ? tills.last() : tills.first();
  }

  // ---- log and the rest

  int led(int f, boolean day) {
    fishThere(f);
    int rows = 0, last = -1;
    for (int[] r : s.log) if (r[1] == f) { rows++; last = r[0]; }
    return day ? last : rows;
  }
  int log(int ago, int what) {
    if (what < 0 || what > 4) throw new NoSuchElementException();
    return ago < 0 || ago >= s.log.size() ? -2 : s.log.get(s.log.size() - 1 - ago)[what];
  }
  int seed(int n) { int was = s.seed; s.seed = n; return was; }
  boolean undo() { if (past.isEmpty()) return false; s = past.removeLast(); return true; }
  void image() { kept = s.copy(); }
  boolean back() { if (kept == null) return false; s = kept.copy(); past.clear(); return true; }
  int count(int what) {
    switch (what) {
      case 0: return s.fish.size();
      case 1: return s.boats.size();
      case 2: return s.buyers.size();
      case 3: return s.dead.size();
      case 4: return s.texts;
      case 5: return s.law == null ? -1 : s.law.size();
      case 6: return s.ice;
      case 7: return s.till;
      case 8: return s.day;
      case 9: return allMoney();
      case 10: return s.log.size();
      case 11: return past.size();
      default: return -1;
    }
  }
}
