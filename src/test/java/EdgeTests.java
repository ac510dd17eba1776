import java.util.Arrays;
import java.util.concurrent.Callable;
import java.util.function.Consumer;
import java.util.function.Supplier;

/** Each sentence of the document that names a boundary: too small, too large, empty, full, a wrap-around, a refused call. */
public final class EdgeTests extends Checks {
  private static int before = 0;
  private static int sentences = 0;

  /** The sentence that the next checks are about; the one ahead of it must have had some. */
  private static void sentence(String text) {
    if (sentences++ > 0 && checks == before) { wrong++; System.out.println(about + ": has no test"); }
    before = checks;
    about = "\"" + text + "\"";
  }

  private static final int[] FAR = {Integer.MIN_VALUE, Integer.MIN_VALUE + 1, -1000, Integer.MAX_VALUE - 1, Integer.MAX_VALUE};

  private interface Asks { Object of(int n); }

  /** The call throws for these numbers and for those far off. */
  private static void refuses(String what, Class<?> with, Asks call, int... these) {
    for (int n : these) fails(what + " of " + n, with, () -> call.of(n));
    for (int n : FAR) fails(what + " of " + n, with, () -> call.of(n));
  }

  /** All that can be seen of an object but for the tape, fault() and the image. */
  private static String look(LastCatch x) {
    StringBuilder b = new StringBuilder();
    for (int i = 0; i < 12; i++) b.append(x.count(i)).append(' ');
    for (int c = 0; c < 25; c++) b.append(x.cell(c, 0)).append(x.cell(c, 2)).append(' ');
    for (int f = 0; f < x.count(0); f++) for (int w = 0; w < 8; w++) b.append(x.fish(f, w)).append(' ');
    for (int t = 0; t < x.count(1); t++) for (int w = 0; w < 4; w++) b.append(x.boat(t, w)).append(' ');
    for (int c = 0; c < x.count(2); c++) for (int w = 0; w < 4; w++) b.append(x.buyer(c, w)).append(' ');
    for (int d = 0; d < x.count(3); d++) b.append(x.dead(d, 0)).append(' ').append(x.dead(d, 1)).append(' ');
    for (int a = 0; a < x.count(10) && a < 10; a++) for (int w = 0; w < 5; w++) b.append(x.log(a, w)).append(' ');
    int seed = x.seed(0);
    x.seed(seed);
    return b.append(seed).toString();
  }

  /** A refused call changes nothing: the one that heard it looks as its like that did not. */
  private static void changesNothing(String what, Class<?> with, Supplier<LastCatch> make, Consumer<LastCatch> call) {
    LastCatch heard = make.get();
    LastCatch like = make.get();
    fails(what, with, () -> { call.accept(heard); return null; });
    checks++;
    String got = look(heard);
    String want = look(like);
    if (!got.equals(want)) {
      wrong++;
      System.out.println(about + ": " + what + " leaves " + got + ", due is " + want);
    }
  }

  public static void main(String[] args) {
    theNewObject();
    theTape();
    cells();
    fishAndBoats();
    buyersAndDead();
    numbersOfAll();
    textsOfTheSea();
    wordsAndNumbers();
    firstWrongBytes();
    nothingStays();
    theLaw();
    depths();
    sumsAndAtoms();
    turnsAndPrices();
    drifting();
    sailing();
    catching();
    turning();
    melting();
    buying();
    draws();
    daysOn();
    inDays();
    acts();
    theLog();
    whereAndCaught();
    meetsAndLost();
    hauls();
    rounds();
    whose();
    partedAndFewest();
    turnedRows();
    turnedAnswers();
    asks();
    sales();
    orders();
    chases();
    pairs();
    restsAndOdds();
    bestOnes();
    setsOfFish();
    trials();
    undone();
    images();
    exceptionsInOrder();
    refusedCalls();
    sentence("the end");
    System.out.println(checks + " checks of " + (sentences - 1) + " sentences, " + wrong + " wrong");
    if (wrong != 0) System.exit(1);
  }

  private static void theNewObject() {
    sentence("A sea without FISH");
    LastCatch x = new LastCatch();
    is("feed", x.end(0), true);
    is("fault", x.fault(), -1);
    is("all cells are still, without fish, round", x.cell(0, 0) * 1000 + x.cell(24, 1) * 10 + x.cell(12, 2) + x.cell(24, 3), 4241);
    is("lost, eddy", x.lost() + x.eddy(), 0);
    is("whose, sale, order, pairs: how much", x.whose(-1) + x.sale(-1) + x.order(-1) + x.pairs(-1), 0);
    is("parted 0, fewest 0", x.parted(0) * 10 + x.fewest(0), 10);
    is("turned", x.turned(false), 2000);
    is("odds", x.odds(4), 10000);
    is("without, twins", x.without() + x.twins(), 0);
    is("freshest, dearest", x.freshest() + x.dearest(), -2);
    is("sets", x.slab() + x.sea() + x.gone() + x.kind(0) + x.kind(3) + x.spoils(60), 0);
    is("trial, span", x.trial(60, false) + x.trial(60, true) + x.span(60, false) + x.span(60, true), 0);
    is("log", x.log(0, 0), -2);
    is("no act, no image", x.undo() || x.back(), false);
    is("days", x.days(60), 0);
    is("of nothing but ice and day", x.count(6) * 100 + x.count(8), 60);

    sentence("An object is used for at most 512 calls");
    LastCatch y = new LastCatch();
    for (int i = 1; i < 512; i++) is("call " + i, y.ice(1), Math.min(999, 10 + i));
    is("the 512th", y.ice(999), 999);
  }

  // ---- the tape

  private static void theTape() {
    sentence("Twenty bytes come behind the TAPE: NONE, and none come, if it would have more than 400");
    LastCatch x = new LastCatch();
    for (int i = 1; i <= 20; i++) is("feed", x.feed(0, 0, 0, 0, 0), 20 * i);
    is("feed on 400", x.feed(0, 0, 0, 0, 0), -1);
    is("end(401)", x.end(401), false);
    is("end(400)", x.end(400), true);
    for (int n : new int[] {399, 390, 381}) {
      is("end", x.end(n), true);
      is("feed on " + n, x.feed(1, 1, 1, 1, 1), -1);
      is("none come to " + n, x.end(n + 1), false);
    }
    is("end", x.end(380), true);
    is("feed on 380", x.feed(0, 0, 0, 0, 0), 400);
    is("feed again", x.feed(0, 0, 0, 0, 0), -1);

    sentence("of each number the highest first");
    LastCatch y = new LastCatch();
    y.feed(0x01630263, 0, 0, 0, 0);
    y.end(4);
    is("rows 1 99, 2 99", y.turned(false), 2000 - 19 - 19);
    y.feed(0xff000000, 0, 0, 0, 0);
    y.end(2);
    fails("a byte of 255 is above 99", ARGUMENT, () -> y.turned(false));

    sentence("The TAPE has its first n bytes alone; false, and nothing happens, if it has fewer, or n is below 0");
    LastCatch z = new LastCatch();
    is("end(0) of an empty one", z.end(0), true);
    is("end(1) of an empty one", z.end(1), false);
    z.feed(0x69636531, 0x32333435, 0, 0, 0);
    for (int n : new int[] {-1, 21, Integer.MIN_VALUE, Integer.MAX_VALUE}) is("end(" + n + ")", z.end(n), false);
    is("all are there still", z.end(20), true);
    is("end(6)", z.end(6), true);
    is("again", z.end(6), true);
    is("one more", z.end(7), false);
    z.waters();
    is("ice 123 of ice123 cut at 6", z.count(6), 123);

    sentence("Uses the TAPE up");
    tape(z, "ice 3").waters();
    is("waters", z.end(1), false);
    tape(z, "keep 3").law();
    is("law", z.end(1), false);
    tape(z, 1, 99).turned(true);
    is("turned", z.end(1), false);
    tape(z, 1, 99).ask();
    is("ask", z.end(1), false);
    fails("a wrong sea", ARGUMENT, () -> tape(z, "x").waters());
    is("waters", z.end(1), false);
    fails("a wrong law", ARGUMENT, () -> tape(z, "x").law());
    is("law", z.end(1), false);
    fails("wrong rows", ARGUMENT, () -> tape(z, 1).turned(true));
    is("turned", z.end(1), false);
    fails("wrong rows", ARGUMENT, () -> tape(z, 1).ask());
    is("ask", z.end(1), false);
  }

  // ---- the terms

  private static void cells() {
    sentence("CELLS 0 to 24");
    LastCatch x = sea("boat hold 1");
    refuses("cell", INDEX, n -> x.cell(n, 0), -1, 25);
    refuses("current", INDEX, n -> x.current(n, 0), -1, 25);
    refuses("tell", INDEX, n -> x.tell(0, n, 1), -1, 25);
    refuses("heads", INDEX, n -> x.heads(0, n), -2, 25);
    for (int c : new int[] {0, 24}) {
      is("current", x.current(c, 4), 4);
      is("heads", x.heads(0, c) >= -1 && x.boat(0, 1) == c, true);
      is("cell", x.cell(c, 1), c);
    }
    is("to none", x.heads(0, -1), 24);

    sentence("CURRENT of a CELL: 0 to 3, or 4 (none, at first)");
    refuses("current", ARGUMENT, n -> x.current(0, n), -1, 5);
    for (int way = 0; way < 5; way++) is("was", x.current(7, way), way == 0 ? 4 : way - 1);

    sentence("BESIDE: left, right, up, down; five rows of five");
    LastCatch y = new LastCatch();
    for (int c = 0; c < 25; c++) {
      y.current(c, 0);
      is("left of " + c, y.cell(c, 1), c == 0 || c == 5 || c == 10 || c == 15 || c == 20 ? c : c - 1);
      y.current(c, 1);
      is("right of " + c, y.cell(c, 1), c == 4 || c == 9 || c == 14 || c == 19 || c == 24 ? c : c + 1);
      y.current(c, 2);
      is("up of " + c, y.cell(c, 1), c < 5 ? c : c - 5);
      y.current(c, 3);
      is("down of " + c, y.cell(c, 1), c > 19 ? c : c + 5);
      y.current(c, 4);
    }
    is("4 is not beside 5", sea("boat hold 1 at 4;fish god at 5 size 1").meets(0, 0), 5);
    is("nor 9 beside 10", sea("boat hold 1 at 10;fish god at 9 size 1").haul(0, 4), 0);

    sentence("IndexOutOfBoundsException: there is no such CELL, FISH, BOAT, BUYER, dead one, KIND (none there)");
    LastCatch e = new LastCatch();
    for (int n : new int[] {-1, 0, 1}) {
      fails("fish " + n, INDEX, () -> e.fish(n, 0));
      fails("boat " + n, INDEX, () -> e.boat(n, 0));
      fails("buyer " + n, INDEX, () -> e.buyer(n, 0));
      fails("dead " + n, INDEX, () -> e.dead(n, 0));
      fails("heads " + n, INDEX, () -> e.heads(n, 0));
      fails("sponge " + n, INDEX, () -> e.sponge(n, 1));
      fails("pay " + n, INDEX, () -> e.pay(n, 1));
      fails("release " + n, INDEX, () -> e.release(n));
      fails("sell " + n, INDEX, () -> e.sell(n, n));
      fails("where " + n, INDEX, () -> e.where(n, 0));
      fails("meets " + n, INDEX, () -> e.meets(n, n));
      fails("haul " + n, INDEX, () -> e.haul(n, 0));
      fails("first " + n, INDEX, () -> e.first(n, 0));
      fails("rests " + n, INDEX, () -> e.rests(n, n));
      fails("led " + n, INDEX, () -> e.led(n, true));
      if (n != -1) {
        fails("whose " + n, INDEX, () -> e.whose(n));
        fails("sale " + n, INDEX, () -> e.sale(n));
        fails("pairs " + n, INDEX, () -> e.pairs(n));
      }
    }
  }

  private static void fishAndBoats() {
    sentence("FISH (at most 8, numbered from 0 on)");
    LastCatch x = sea(times(7, "fish god at 0 size 1 fresh 1", ";"));
    is("the 8th", x.tell(0, 1, 1), 7);
    fails("a 9th", STATE, () -> x.tell(0, 1, 1));
    fails("a 9th by a text", ARGUMENT, () -> tape(x, "day 1;fish god at 1 size 1").waters());
    is("its first word", x.fault(), 6);
    is("no day 1", x.count(8), 0);
    refuses("fish", INDEX, n -> x.fish(n, 0), -1, 8);
    sea(x, "boat hold 9");
    x.days(1);
    is("seven are gone", x.gone(), 127);
    fails("a 9th, though some are gone", STATE, () -> x.tell(0, 1, 1));
    fails("and by a text", ARGUMENT, () -> tape(x, "fish god at 1 size 1").waters());
    is("its first word", x.fault(), 0);
    is("eight", x.count(0), 8);
    is("eight by one text", sea(times(8, "fish god at 0 size 1", ";")).count(0), 8);
    LastCatch told = new LastCatch();
    for (int i = 0; i < 8; i++) is("tell", told.tell(3, 24, 9), i);
    fails("a 9th", STATE, () -> told.tell(3, 24, 9));

    sentence("KIND 0 tell, 1 god, 2 horse, 3 saying");
    LastCatch k = sea("fish tell at 0 size 1;fish god at 0 size 1;fish horse at 0 size 1;fish saying at 0 size 1");
    for (int f = 0; f < 4; f++) is("kind", k.fish(f, 0) * 16 + k.kind(f), f * 16 + (1 << f));
    refuses("kind", INDEX, k::kind, -1, 4);
    refuses("tell", INDEX, n -> k.tell(n, 0, 1), -1, 4);
    is("tell 0 and 3", k.tell(0, 0, 1) * 10 + k.tell(3, 0, 1), 45);

    sentence("SIZE 1 to 9, FRESH 0 to 99 (90 at first)");
    refuses("tell", ARGUMENT, n -> k.tell(0, 0, n), -1, 0, 10);
    is("sizes 1 and 9", k.fish(k.tell(0, 0, 1), 1) * 10 + k.fish(k.tell(0, 0, 9), 1), 19);
    is("told: 90", k.fish(7, 2), 90);
    is("0", sea("fish god at 0 size 1 fresh 0").fish(0, 2), 0);
    is("99", sea("fish god at 0 size 1 fresh 99").fish(0, 2), 99);
    is("90", sea("fish god at 0 size 1").fish(0, 2), 90);
    wrongSea("fish god at 0 size 1 fresh 100", 27);
    wrongSea("fish god at 0 size 0", 19);
    wrongSea("fish god at 0 size 10", 19);
    wrongSea("fish god at 25 size 1", 12);

    sentence("BOATS (at most 3, numbered from 0 on): a CELL (the HARBOUR at first), HEADS: none (at first), HOLD 1 to 9");
    LastCatch b = sea("boat hold 1;boat hold 9 at 24 heads 24;boat hold 5 at 0 heads 0");
    is("at first", b.boat(0, 0) * 10 + b.boat(0, 1), -1);
    is("24", b.boat(1, 0) * 100 + b.boat(1, 1), 2424);
    is("0", b.boat(2, 0) * 100 + b.boat(2, 1), 0);
    is("hold", b.boat(0, 2) * 10 + b.boat(1, 2), 19);
    refuses("boat", INDEX, n -> b.boat(n, 0), -1, 3);
    fails("a 4th", ARGUMENT, () -> tape(b, " boat hold 1").waters());
    is("its first word", b.fault(), 1);
    wrongSea("boat hold 0", 10);
    wrongSea("boat hold 10", 10);
    wrongSea("boat hold 1 at 25", 15);
    wrongSea("boat hold 1 heads 25", 18);
  }

  private static void buyersAndDead() {
    sentence("BUYERS (at most 5): MONEY 0 to 999, LEAST 0 to 99 (0 at first), KEEN 0 to 100 (50 at first)");
    LastCatch x = sea("buyer tell money 0;buyer saying money 999 least 99 keen 100;buyer god money 1 least 0 keen 0;" + times(2, "buyer god money 2", ";"));
    is("at first", x.buyer(0, 2) * 1000 + x.buyer(0, 3), 50);
    is("the most", x.buyer(1, 1) * 100000 + x.buyer(1, 2) * 1000 + x.buyer(1, 3), 99999100);
    is("the least", x.buyer(2, 2) + x.buyer(2, 3), 0);
    refuses("buyer", INDEX, n -> x.buyer(n, 0), -1, 5);
    fails("a 6th", ARGUMENT, () -> tape(x, "ice 1;buyer god money 2").waters());
    is("its first word", x.fault(), 6);
    wrongSea("buyer god money 1000", 16);
    wrongSea("buyer god money 1 least 100", 24);
    wrongSea("buyer god money 1 keen 101", 23);

    sentence("The DEAD (at most 6): SAID: KINDS, as bits, BREATH 0 to 99; of the dead none twice, else it is wrong at it");
    LastCatch d = sea("dead tell god horse saying breath 99;dead saying breath 0;" + times(4, "dead god breath 1", ";"));
    is("all", d.dead(0, 0) * 100 + d.dead(0, 1), 1599);
    is("one", d.dead(1, 0) * 100 + d.dead(1, 1), 800);
    refuses("dead", INDEX, n -> d.dead(n, 0), -1, 6);
    fails("a 7th", ARGUMENT, () -> tape(d, "dead god breath 1").waters());
    is("its first word", d.fault(), 0);
    wrongSea("dead god breath 100", 16);
    wrongSea("dead breath 1", 5);
    wrongSea("dead god god breath 1", 9);
    wrongSea("dead tell god horse saying tell breath 1", 27);
    wrongSea("dead tell god horse saying saying breath 1", 27);
    wrongSea("dead tell god horse saying", 26);
    wrongSea("dead saying horse saying", 18);
  }

  private static void numbersOfAll() {
    sentence("ICE 0 to 999 (10 at first). TILL 0 at first. DAY 0 at first");
    LastCatch x = new LastCatch();
    is("ice", x.count(6), 10);
    is("till, day", x.count(7) + x.count(8), 0);
    is("ice 0", sea("ice 0").count(6), 0);
    is("ice 999", sea("ice 999").count(6), 999);
    is("day 999", sea("day 999").count(8), 999);
    wrongSea("ice 1000", 4);
    wrongSea("day 1000", 4);

    sentence("ICE then (999 at most). n is none (1 to 999)");
    refuses("ice", ARGUMENT, x::ice, -1, 0, 1000);
    is("1", x.ice(1), 11);
    is("to 998", x.ice(987), 998);
    is("to 999", x.ice(1), 999);
    is("stays 999", x.ice(1), 999);
    is("999", new LastCatch().ice(999), 999);

    sentence("Sponged: FRESH then (99 at most). n is none (1 to 99)");
    LastCatch s = lying("fish god at 0 size 1 fresh 6;fish god at 0 size 1 fresh 90");
    refuses("sponge", ARGUMENT, n -> s.sponge(0, n), -1, 0, 100);
    is("1", s.sponge(0, 1), 2);
    is("to 99", s.sponge(0, 97), 99);
    is("stays 99", s.sponge(0, 1), 99);
    is("99", s.sponge(1, 99), 99);

    sentence("MONEY is given: MONEY then (999 at most). n is none (1 to 999)");
    LastCatch p = sea("buyer god money 997;buyer god money 0");
    refuses("pay", ARGUMENT, n -> p.pay(0, n), -1, 0, 1000);
    is("998", p.pay(0, 1), 998);
    is("999", p.pay(0, 1), 999);
    is("stays", p.pay(0, 1), 999);
    is("0 and 999", p.pay(1, 999), 999);
    is("all together", p.count(9), 1998);

    sentence("count: NONE for another what");
    for (int n : FAR) is("count(" + n + ")", p.count(n), -1);
    is("count(-1), count(12)", p.count(-1) + p.count(12), -2);

    sentence("another what (of the others: NoSuchElementException)");
    LastCatch all = sea("fish god at 0 size 1;boat hold 1;buyer god money 1;dead god breath 1");
    refuses("cell", ELEMENT, n -> all.cell(0, n), -1, 4);
    refuses("fish", ELEMENT, n -> all.fish(0, n), -1, 10);
    refuses("boat", ELEMENT, n -> all.boat(0, n), -1, 4);
    refuses("buyer", ELEMENT, n -> all.buyer(0, n), -1, 6);
    refuses("dead", ELEMENT, n -> all.dead(0, n), -1, 2);
    refuses("log", ELEMENT, n -> all.log(0, n), -1, 5);
  }

  // ---- texts of the sea

  private static void textsOfTheSea() {
    sentence("THE SEA is told in texts (at most 12); UnsupportedOperationException: there are 12");
    LastCatch x = new LastCatch();
    for (int i = 1; i <= 12; i++) is("text " + i, tape(x, i % 2 == 0 ? "" : "ice " + i).waters(), i);
    x.ice(1);
    tape(x, "ice 77");
    fails("a 13th", UNSUPPORTED, x::waters);
    is("ice", x.count(6), 12);
    is("no fault", x.fault(), -1);
    is("used up", x.end(1), false);
    is("acts stay", x.count(11), 1);
    fails("an empty 13th", UNSUPPORTED, x::waters);
    fails("a wrong 13th", ARGUMENT, () -> tape(x, "ice x").waters());
    is("its fault", x.fault(), 4);
    is("12", x.count(4), 12);
    is("a law can be told still", tape(x, "keep 1").law(), 1);
    LastCatch y = sea("ice 1");
    y.image();
    for (int i = 2; i <= 12; i++) is("text " + i, tape(y, "").waters(), i);
    y.back();
    is("room again, gone back", tape(y, "").waters(), 2);

    sentence("LINE { ; LINE }, at most 14; of a LINE too many, the first word");
    is("14", tape(new LastCatch(), times(14, "ice 1", ";")).waters(), 1);
    wrongSea(times(15, "ice 1", ";"), 84);
    wrongSea(times(15, "ice 1", " ; "), 112);
    wrongSea(times(16, "ice 1", ";"), 84);
    wrongSea(times(14, "ice 1", ";") + ";cod", 84);
    wrongSea(times(14, "ice 1", ";") + ";;", 84);
    wrongSea(times(14, "ice 1", ";") + ";", 84);
    wrongSea(times(14, "ice 1", ";") + " ", 84, 1);

    sentence("A text that is empty, or blanks alone, has no LINE");
    LastCatch e = new LastCatch();
    is("empty", e.waters(), 1);
    is("a blank", tape(e, " ").waters(), 2);
    is("400 blanks", tape(e, times(400, " ", "")).waters(), 3);
    is("nothing is there", e.count(0) + e.count(1) + e.count(2) + e.count(3), 0);
    is("no fault", e.fault(), -1);
    is("law empty", tape(e, "").law(), 0);
    is("law of blanks", tape(e, times(400, " ", "")).law(), 0);
    wrongSea(";", 0);
    wrongSea("  ;", 2);
    wrongLaw(";", 0);
    wrongLaw("  ;", 2);

    sentence("current: from the CELL N on, CELL by CELL, at most as many as there are to 24, else it is wrong at the W too many");
    LastCatch c = sea("current 0 " + times(25, "up", " "));
    is("first and last", c.cell(0, 0) * 10 + c.cell(24, 0), 22);
    wrongSea("current 0 " + times(26, "up", " "), 10 + 75);
    is("24 alone", sea("current 24 right").cell(24, 0), 1);
    wrongSea("current 24 up up", 14);
    wrongSea("current 24 up cod", 14);
    wrongSea("current 22 up up up up up", 20);
    wrongSea("current 25 up", 8);
    wrongSea("current 0", 9);
    wrongSea("current 0 cod", 10);
    wrongSea("current 0 up cod", 13);
    wrongSea("current 24 up 3", 14);
    LastCatch s = sea("current 3 up down still left right", "current 4 still;current 4 right");
    is("told again", s.cell(3, 0) * 100 + s.cell(4, 0) * 10 + s.cell(5, 0), 214);
    is("the row goes on", s.cell(7, 0), 1);
  }

  /** As wrongSea, but the text is right and tells so many texts. */
  private static void wrongSea(String text, int length, int texts) {
    is("length of " + text, text.length() - 1, length - 1);
    is("waters of " + text, tape(new LastCatch(), text).waters(), texts);
  }

  private static void wordsAndNumbers() {
    sentence("Numbers are of 1 to 3 digits");
    is("000", sea("ice 000").count(6), 0);
    is("007", sea("ice 007").count(6), 7);
    is("01", sea("fish god at 024 size 09 fresh 099").fish(0, 4), 24);
    wrongSea("ice 0000", 4);
    wrongSea("ice 0001", 4);
    wrongSea("fish god at 0001 size 1", 12);
    wrongSea("fish god at 1 size 0001", 19);
    wrongSea("boat hold 0001", 10);
    wrongSea("buyer god money 0001", 16);
    wrongSea("dead god breath 0001", 16);
    wrongSea("current 0001 up", 8);
    wrongSea("ice 99999999999999999999", 4);
    wrongSea("ice -1", 4);
    wrongSea("ice +1", 4);
    is("keep 000", tape(new LastCatch(), "keep 000;dear 099 if 001 < 010").law(), 2);
    wrongLaw("keep 0001", 5);
    wrongLaw("keep 1 if 0001 < 2", 10);
    wrongLaw("keep 1 if 1 < 0002", 14);

    sentence("Words are as long as a to z go on; between all there may be blanks (32), also ahead and behind");
    LastCatch x = sea("  fish   god  at   1  size  2  fresh  3  ;  boat  hold  4at5heads6;dead god horse breath7  ");
    is("blanks or none", x.fish(0, 4) * 100000 + x.fish(0, 1) * 10000 + x.fish(0, 2) * 1000 + x.boat(0, 2) * 100 + x.boat(0, 0) * 10 + x.boat(0, 1), 123456);
    is("breath", x.dead(0, 1), 7);
    wrongSea("fi sh god at 1 size 2", 0);
    wrongSea("fish go d at 1 size 2", 5);
    wrongSea("fish godat 1 size 2", 5);
    wrongSea("fish god at 1 2 size 2", 14);
    wrongSea("ice 1ice 2", 5);
    wrongSea("icing 1", 0);
    wrongSea("ic 1", 0);
    wrongSea("ICE 1", 0);
    wrongSea("iCE 1", 0);
    for (int sign : new int[] {0, 9, 10, 13, 31, 33, 47, 58, 96, 123, 127, 128, 160, 255}) {
      wrongSea((char) sign + "ice 1", 0);
      wrongSea("ice" + (char) sign + "1", sign == 96 || sign == 123 || sign < 97 || sign > 122 ? 3 : 0);
      wrongSea("ice 1" + (char) sign, 5);
      wrongLaw("keep 1 if big" + (char) sign, 13);
    }
    is("a law with blanks", tape(new LastCatch(), "  keep1if(big)and not(1<2)or fish+1>0  ;dear 2  ").law(), 2);
    wrongLaw("keep 1 if bigand iced", 10);
    wrongLaw("keep 1 ifbig", 7);

    sentence("a text of all the TAPE's 400 bytes");
    String full = times(13, "current 0 up up up up up up", ";") + ";ice ";
    StringBuilder b = new StringBuilder(full);
    while (b.length() < 399) b.append(' ');
    is("its last byte counts", sea(b + "7").count(6), 7);
    wrongSea(b + " ", 400);
    wrongSea(b + ";", 399);
    StringBuilder law = new StringBuilder("dear 50 if 1");
    while (law.length() < 396) law.append("+1");
    LastCatch y = sea("fish god at 0 size 1 fresh 0");
    law(y, law + ">192");
    is("193 ones are not above 193", y.fish(0, 7), law.length() == 396 ? 52 : 2);
  }

  private static void firstWrongBytes() {
    sentence("The first wrong byte: the begin of the first thing that cannot stand there (a word that is none)");
    wrongSea("cod 1", 0);
    wrongSea("1", 0);
    wrongSea("fish cod at 1 size 1", 5);
    wrongSea("fish 1", 5);
    wrongSea("fish god in 1 size 1", 9);
    wrongSea("fish god at 1 weight 1", 14);
    wrongSea("fish god at 1 size 1 old 1", 21);
    wrongSea("fish god at one", 12);
    wrongSea("fish god at 1 size x", 19);
    wrongSea("fish god at 1 size 1 fresh x", 27);
    wrongSea("boat at 1 hold 1", 5);
    wrongSea("boat hold x", 10);
    wrongSea("boat hold 1 at x", 15);
    wrongSea("boat hold 1 at 1 at 2", 17);
    wrongSea("boat hold 1 heads x", 18);
    wrongSea("boat hold 1 heads 1 at 2", 20);
    wrongSea("buyer cod money 1", 6);
    wrongSea("buyer god least 1", 10);
    wrongSea("buyer god money x", 16);
    wrongSea("buyer god money 1 least x", 24);
    wrongSea("buyer god money 1 keen x", 23);
    wrongSea("buyer god money 1 keen 1 least 1", 25);
    wrongSea("dead cod breath 1", 5);
    wrongSea("dead god cod breath 1", 9);
    wrongSea("dead god breath x", 16);
    wrongSea("ice x", 4);
    wrongSea("day x", 4);
    wrongSea("day 1 day 2", 6);
    wrongSea("day 1,day 2", 5);
    wrongSea("ice 1000;cod", 4);

    sentence("or the text's length, if more must come");
    String fish = "fish god at 1 size 1 fresh 1";
    for (int cut : new int[] {4, 8, 11, 13, 18, 26}) wrongSea(fish.substring(0, cut), cut);
    String boat = "boat hold 1 at 1 heads 1";
    for (int cut : new int[] {4, 9, 14, 22}) wrongSea(boat.substring(0, cut), cut);
    String buyer = "buyer god money 1 least 1 keen 1";
    for (int cut : new int[] {5, 9, 15, 23, 30}) wrongSea(buyer.substring(0, cut), cut);
    String dead = "dead god tell breath 1";
    for (int cut : new int[] {4, 8, 13, 20}) wrongSea(dead.substring(0, cut), cut);
    for (String t : new String[] {"current", "current 3", "ice", "day", "ice 1;", "ice 1 ; "}) wrongSea(t, t.length());
    wrongSea("fish god at   ", 14);
    String law = "keep 1 if not ( big and 1 + 2 < 3 ) or slab";
    for (int cut : new int[] {4, 9, 13, 15, 19, 23, 25, 27, 29, 31, 33, 38}) wrongLaw(law.substring(0, cut), cut);
    wrongLaw("keep 1;", 7);
    wrongLaw("keep 1 if  ", 11);

    sentence("NONE without one, and ahead of any");
    LastCatch x = new LastCatch();
    is("ahead of any", x.fault(), -1);
    fails("wrong", ARGUMENT, () -> tape(x, "ice").waters());
    is("its fault", x.fault(), 3);
    x.ice(1);
    x.undo();
    x.image();
    x.back();
    is("it stays", x.fault(), 3);
    tape(x, 1, 99).turned(false);
    is("rows are no text", x.fault(), 3);
    tape(x, "keep 1").law();
    is("a right law", x.fault(), -1);
    fails("wrong law", ARGUMENT, () -> tape(x, "keep 1 if").law());
    is("its fault", x.fault(), 9);
    tape(x, "").waters();
    is("a right sea", x.fault(), -1);
  }

  private static void nothingStays() {
    sentence("Of a wrong text nothing stays");
    Supplier<LastCatch> make = () -> {
      LastCatch x = law(sea("fish god at 0 size 1;boat hold 1;buyer god money 1;dead god breath 1;current 3 up"), "dear 7");
      x.heads(0, 4);
      x.days(1);
      return x;
    };
    for (String line : new String[] {"current 3 down", "fish god at 1 size 1", "boat hold 2", "buyer god money 2", "dead god breath 2", "ice 3", "day 4"}) {
      changesNothing(line + ";cod", ARGUMENT, make, x -> tape(x, line + ";cod").waters());
      changesNothing(line + ";", ARGUMENT, make, x -> tape(x, line + ";").waters());
    }
    changesNothing("a line that breaks off", ARGUMENT, make, x -> tape(x, "boat hold 2 at 5 heads").waters());
    changesNothing("a current that goes on", ARGUMENT, make, x -> tape(x, "current 23 up up up").waters());
    changesNothing("a wrong law", ARGUMENT, make, x -> tape(x, "dear 9;keep 5;cod").law());
    changesNothing("a law that breaks off", ARGUMENT, make, x -> tape(x, "dear 9 if big and").law());
    LastCatch y = make.get();
    for (int i = 0; i < 3; i++) fails("boat", ARGUMENT, () -> tape(y, "boat hold 9 at 9 heads 9;x").waters());
    is("and leaves nothing for the next", sea(y, "boat hold 8").boat(1, 0) * 10 + y.boat(1, 1), -1);
  }

  // ---- the law

  private static void theLaw() {
    sentence("THE LAW: at most 12 LINES; of a LINE too many, the first word");
    is("12", tape(new LastCatch(), times(12, "keep 1", ";")).law(), 12);
    wrongLaw(times(13, "keep 1", ";"), 84);
    wrongLaw(times(13, "keep 1", " ; "), 108);
    wrongLaw(times(12, "keep 1", ";") + ";cod", 84);
    wrongLaw(times(12, "keep 1", ";") + "; ", 85);

    sentence("(a text, in place of the one before)");
    LastCatch x = sea("fish god at 0 size 1 fresh 0");
    law(x, "dear 9;turn 3");
    is("price, turns", x.fish(0, 7) * 100 + x.fish(0, 6), 1108);
    law(x, "dear 1");
    is("price, turns", x.fish(0, 7) * 100 + x.fish(0, 6), 305);
    law(x, "");
    is("an empty one", x.fish(0, 7) * 100 + x.fish(0, 6), 205);
    is("its lines", x.count(5), 0);
    is("without one", new LastCatch().count(5), -1);

    sentence("keep N | turn N | dear N (N 0 to 99)");
    law(x, "keep 0;turn 0;dear 0");
    is("0", x.fish(0, 7) * 100 + x.fish(0, 6), 205);
    law(x, "turn 99;dear 99");
    is("99", x.fish(0, 7) * 1000 + x.fish(0, 6), 101104);
    wrongLaw("keep 100", 5);
    wrongLaw("turn 100", 5);
    wrongLaw("dear 100", 5);
    wrongLaw("dear", 4);
    wrongLaw("dear x", 5);
    wrongLaw("cod 1", 0);
    wrongLaw("dear 1 cod", 7);
    wrongLaw("dear 1 if big 1", 14);
    wrongLaw("dear 1 2", 7);
  }

  private static void depths() {
    sentence("( and not within one another at most 6 deep; the ( or not that is a 7th one deep");
    LastCatch x = sea("fish god at 0 size 9 fresh 0");
    for (int n = 0; n <= 6; n++) for (int mix = 0; mix < 1 << n; mix++) {
      StringBuilder open = new StringBuilder();
      StringBuilder close = new StringBuilder();
      int nots = 0;
      for (int i = 0; i < n; i++) {
        if ((mix >> i & 1) == 0) { open.append('('); close.append(')'); } else { open.append("not "); nots++; }
      }
      LastCatch y = n < 6 && mix > 3 ? x : sea("fish god at 0 size 9 fresh 0");
      law(y, "dear 9 if " + open + "big" + close);
      is(open + "big" + close, y.fish(0, 7), nots % 2 == 0 ? 27 : 18);
      if (n == 6) {
        wrongLaw("dear 9 if " + open + "(big)" + close, 10 + open.length());
        wrongLaw("dear 9 if " + open + "not big" + close, 10 + open.length());
      }
    }
    law(x, "dear 9 if " + times(5, "((((((big))))))", " and "));
    is("six deep, side by side", x.fish(0, 7), 27);
    law(x, "dear 9 if not not not not not not big and not not not not not not big or not not not not not not big");
    is("not, side by side", x.fish(0, 7), 27);
    wrongLaw("dear 9 if ((((((big)))))) or ((((((not big))))))", 35);
    law(x, "dear 9 if (((((not big or not slab)))))");
    is("in the deepest ( a not each", x.fish(0, 7), 27);
    law(x, "dear 9 if ((((((big and slab or iced and not_))))))".replace("not_", "1<2"));
    is("and, or, a sum in the deepest", x.fish(0, 7), 27);
    law(x, "dear 9 if slab or (slab or (slab or (slab or (slab or (slab or 1 + 1 + 1 < 2 + 2)))))");
    is("or with or within", x.fish(0, 7), 27);
    law(x, "dear 9 if slab or big and (slab or big and (slab or big and (slab or big and (slab or big and (slab or big and 1 < 1 + 1)))))");
    is("or, and within", x.fish(0, 7), 27);
    law(x, "dear 9 if slab or big and (slab or big and (slab or big and (slab or big and (slab or big and (slab or big and 2 < 1 + 1)))))");
    is("or, and within, that fails", x.fish(0, 7), 18);
    wrongLaw("dear 1 if ((((((big)))))", 24);
    wrongLaw("dear 1 if ((((((big)))))))", 25);
  }

  private static void sumsAndAtoms() {
    sentence("SUM < SUM | SUM > SUM (of two that are one neither holds)");
    LastCatch x = sea("fish god at 0 size 1 fresh 0");
    String[] holds = {"0 < 1", "1 > 0", "998 < 999", "999 > 998", "999 + 999 > 999 + 998", "0 + 0 + 0 < 0 + 1"};
    String[] fail = {"0 < 0", "0 > 0", "999 < 999", "999 > 999", "1 < 0", "0 > 1", "999 + 999 < 999 + 998"};
    for (String c : holds) is(c, law(x, "dear 9 if " + c).fish(0, 7), 11);
    for (String c : fail) is(c, law(x, "dear 9 if " + c).fish(0, 7), 2);
    wrongLaw("dear 9 if 1", 11);
    wrongLaw("dear 9 if 1 +", 13);
    wrongLaw("dear 9 if 1 = 1", 12);
    wrongLaw("dear 9 if 1 <= 1", 13);
    wrongLaw("dear 9 if 1 < 1 > 1", 16);
    wrongLaw("dear 9 if 1 and 1 < 2", 12);
    wrongLaw("dear 9 if + 1 < 2", 10);
    wrongLaw("dear 9 if 1 - 1 < 2", 12);
    wrongLaw("dear 9 if 1 < big", 14);
    wrongLaw("dear 9 if and", 10);
    wrongLaw("dear 9 if big or", 16);
    wrongLaw("dear 9 if big or or", 17);
    wrongLaw("dear 9 if 1000 < 1", 10);
    wrongLaw("dear 9 if 1 > 1000", 14);

    sentence("iced: ICE is above 0");
    is("0", law(sea("ice 0;fish god at 0 size 1 fresh 0"), "dear 9 if iced").fish(0, 7), 2);
    is("1", law(sea("ice 1;fish god at 0 size 1 fresh 0"), "dear 9 if iced").fish(0, 7), 11);

    sentence("big: SIZE is 7 at least");
    for (int size = 1; size <= 9; size++) is("size " + size, law(sea("fish god at 0 size " + size + " fresh 0"), "dear 50 if big").fish(0, 7), 2 * size + (size >= 7 ? 50 : 0));

    sentence("slab: it is on the SLAB; lying: how many are on the SLAB");
    LastCatch s = law(sea("boat hold 9;boat hold 9 at 6;fish god at 0 size 1;fish god at 0 size 1 fresh 5;fish god at 6 size 1 fresh 9;fish god at 9 size 1 fresh 9"), "dear 50 if slab");
    is("none", law(s, "dear 50 if slab;dear 9 if lying > 0").fish(0, 7), 11);
    s.days(1);
    is("on it, one", s.fish(0, 7), 2 + 8 + 59);
    is("gone", s.fish(1, 7), 2 + 9);
    is("in a boat", s.fish(2, 7), 2 + 9);
    is("in the sea", s.fish(3, 7), 2 + 9);
    LastCatch eight = law(sea("boat hold 9;" + times(8, "fish god at 0 size 1", ";")), "dear 9 if lying > 7;dear 7 if fish > 6;dear 1 if lying > 8");
    eight.days(1);
    is("eight lie", eight.fish(6, 7), 2 + 8 + 9);
    is("the 8th", eight.fish(7, 7), 2 + 8 + 9 + 7);

    sentence("day: DAY modulo 100");
    int[] days = {0, 1, 99, 100, 101, 199, 200, 999};
    for (int d : days) {
      LastCatch y = sea("day " + d + ";fish god at 0 size 1 fresh 0");
      is("day " + d, law(y, "dear 9 if day > " + (d % 100 == 0 ? 0 : d % 100 - 1) + " or day < 1;dear 50 if day > " + d % 100 + " or day < " + d % 100).fish(0, 7), 11);
    }
    sentence("kind 0 to 3, size, fresh, fish, ice in a SUM");
    LastCatch z = sea("ice 999;fish tell at 0 size 1 fresh 99;fish saying at 0 size 9 fresh 0");
    law(z, "dear 1 if kind < 1;dear 2 if kind > 2;dear 4 if fresh > 98;dear 8 if fresh < 1;dear 16 if size > 8;dear 32 if ice > 998;dear 64 if fish < 1");
    is("of the first", z.fish(0, 7), 2 + 9 + 1 + 4 + 32 + 64);
    is("of the second", z.fish(1, 7), 18 + 2 + 8 + 16 + 32);
  }

  private static void turnsAndPrices() {
    sentence("TURNS by: 5, and the sum of all turn LINES that hold, less that of all keep LINES (0 at least)");
    LastCatch x = sea("fish god at 0 size 1");
    is("without a law", x.fish(0, 6), 5);
    int[] keep = {0, 4, 5, 6, 99};
    int[] turns = {5, 1, 0, 0, 0};
    for (int i = 0; i < keep.length; i++) is("keep " + keep[i], law(x, "keep " + keep[i]).fish(0, 6), turns[i]);
    is("8 less 8", law(x, "keep 8;turn 3").fish(0, 6), 0);
    is("9 less 8", law(x, "keep 8;turn 4").fish(0, 6), 1);
    is("12 lines", law(x, times(12, "turn 99", ";")).fish(0, 6), 5 + 12 * 99);
    is("12 lines", law(x, times(12, "keep 99", ";")).fish(0, 6), 0);
    is("those that hold", law(x, "turn 7 if big;turn 2 if iced;keep 1 if not big;keep 50 if slab").fish(0, 6), 6);

    sentence("PRICE: SIZE times 2, and FRESH by 10, rounded down, and the sum of all dear LINES that hold");
    int[] fresh = {0, 1, 9, 10, 19, 89, 90, 99};
    for (int f : fresh) is("fresh " + f, sea("fish god at 0 size 9 fresh " + f).fish(0, 7), 18 + f / 10);
    is("12 lines", law(sea("fish god at 0 size 9 fresh 99"), times(12, "dear 99", ";")).fish(0, 7), 27 + 12 * 99);
  }

  // ---- a day

  private static void drifting() {
    sentence("DRIFT of a CELL: itself, if that is 4, or there is no such CELL");
    LastCatch x = sea("current 4 right;current 20 left;current 2 up;current 22 down;fish god at 4 size 1;fish god at 20 size 1;fish god at 2 size 1;fish god at 22 size 1;fish god at 12 size 1");
    x.days(1);
    is("4, 20, 2, 22, 12", x.fish(0, 4) * 1000000 + x.fish(1, 4) * 10000 + x.fish(2, 4) * 1000 + x.fish(3, 4) * 100 + x.fish(4, 4), 4 * 1000000 + 20 * 10000 + 2000 + 2200 + 12);

    sentence("(a) each FISH in the SEA drifts (none in a BOAT)");
    LastCatch y = sea("current 12 right right;boat hold 1 at 12;fish god at 11 size 1;fish god at 12 size 2;current 11 right");
    y.days(1);
    is("12 drifts off, 11 comes to the boat", y.boat(0, 3) * 100 + y.fish(1, 4), 113);
    y.days(1);
    is("the one stays with the boat, the other drifts", y.fish(0, 4) * 100 + y.fish(1, 4), 1214);
    y.days(1);
    is("14 is still", y.fish(1, 4), 14);
  }

  private static void sailing() {
    sentence("if it HEADS to a CELL, it goes one CELL on: along X, if X is another one, else along Y (none, if it is there already); if it is there then, it HEADS to none");
    LastCatch x = sea("boat hold 1 at 0 heads 24;boat hold 1 at 24 heads 0;boat hold 1 at 12 heads 12");
    int[] there = {1, 2, 3, 4, 9, 14, 19, 24};
    int[] back = {23, 22, 21, 20, 15, 10, 5, 0};
    for (int i = 0; i < 8; i++) {
      x.days(1);
      is("there", x.boat(0, 0), there[i]);
      is("back", x.boat(1, 0), back[i]);
      is("heads", x.boat(0, 1), i < 7 ? 24 : -1);
      is("heads back", x.boat(1, 1), i < 7 ? 0 : -1);
      is("there already", x.boat(2, 0) * 10 + x.boat(2, 1), 119);
    }
    x.days(1);
    is("to none: it stays", x.boat(0, 0) * 100 + x.boat(1, 0), 2400);
    x.heads(0, 4);
    x.days(1);
    is("up alone", x.boat(0, 0), 19);
    x.heads(0, -1);
    x.days(1);
    is("no more", x.boat(0, 0), 19);
    x.heads(0, 19);
    is("heads to where it is", x.boat(0, 1), 19);
    x.days(1);
    is("then to none", x.boat(0, 0) * 10 + x.boat(0, 1), 189);
  }

  private static void catching() {
    sentence("then it catches the FISH in the SEA at its CELL, by numbers, as long as its HOLD is not full");
    for (int hold = 1; hold <= 9; hold++) {
      LastCatch x = sea("boat hold " + hold + " at 6;" + times(8, "fish god at 6 size 1", ";"));
      x.days(1);
      is("hold " + hold, x.boat(0, 3), (1 << Math.min(8, hold)) - 1);
      x.days(1);
      is("full, or all", x.boat(0, 3), (1 << Math.min(8, hold)) - 1);
    }
    LastCatch y = sea("boat hold 1 at 6;boat hold 2 at 6;boat hold 1 at 6;" + times(5, "fish god at 6 size 1", ";"));
    y.days(1);
    is("boat by boat", y.boat(0, 3) * 10000 + y.boat(1, 3) * 100 + y.boat(2, 3), 10608);
    is("one is left", y.sea(), 16);
    y.release(1);
    is("room again", y.boat(1, 3), 4);
    y.days(1);
    is("the lesser one", y.boat(1, 3), 6);
    LastCatch z = sea("boat hold 9 at 6 heads 7;fish god at 6 size 1;fish god at 7 size 1;fish god at 8 size 1;current 8 left;current 6 up");
    z.days(1);
    is("where it goes to, and what drifts there", z.boat(0, 3) * 100 + z.fish(0, 4), 601);

    sentence("if it is at the HARBOUR, all FISH in it are on the SLAB");
    LastCatch h = sea("boat hold 2 at 1 heads 0;fish god at 1 size 1;fish god at 0 size 1;fish god at 0 size 1");
    h.days(1);
    is("2 of 2", h.slab(), 6);
    is("none in it", h.boat(0, 3), 0);
    LastCatch g = sea("boat hold 2 at 2;fish god at 2 size 1;fish god at 0 size 1");
    g.days(1);
    g.heads(0, 0);
    g.days(2);
    is("full at the harbour? one of room", g.slab(), 3);
    LastCatch f = sea("boat hold 1 at 2;fish god at 2 size 1;fish god at 0 size 1");
    f.days(1);
    f.heads(0, 0);
    f.days(1);
    is("beside it: in the boat", f.boat(0, 3) * 10 + f.slab(), 10);
    f.days(1);
    is("full ahead of unlading", f.slab() * 10 + f.sea(), 12);
    f.days(1);
    is("a day behind", f.slab(), 3);
  }

  private static void turning() {
    sentence("FRESH is what it TURNS by less; one whose FRESH is 0 at most then is GONE (turned; FRESH 0)");
    LastCatch x = sea("boat hold 9;fish god at 0 size 1 fresh 4;fish god at 0 size 1 fresh 5;fish god at 0 size 1 fresh 6;fish god at 0 size 1 fresh 0;fish god at 1 size 1 fresh 0");
    x.days(1);
    is("4, 5 and 0 are gone", x.gone(), 11);
    is("fresh 0", x.fish(0, 2) + x.fish(1, 2) + x.fish(3, 2), 0);
    is("6 is 1", x.fish(2, 2), 1);
    is("0 in the sea stays", x.fish(4, 3), 0);
    is("three rows", x.count(10), 4 + 3);
    log(x, 0, 0, 3, 1, -1, 0);
    log(x, 1, 0, 1, 1, -1, 0);
    log(x, 2, 0, 0, 1, -1, 0);
    LastCatch k = law(sea("boat hold 9;fish god at 0 size 1 fresh 0;fish god at 0 size 1 fresh 1"), "keep 99");
    k.days(60);
    is("0 is gone, though it turns by 0; 1 stays", k.gone() * 10 + k.fish(1, 2), 11);
    LastCatch b = sea("boat hold 1 at 6;fish god at 6 size 1 fresh 5;fish god at 6 size 1 fresh 99");
    b.days(1);
    is("in a boat too", b.gone(), 1);
    is("it is in no boat then", b.boat(0, 3) * 10 + b.fish(0, 5), -1);
    b.days(1);
    is("so there is room", b.boat(0, 3), 2);

    sentence("by all as it is ahead of (c)");
    LastCatch y = law(sea("boat hold 9;fish god at 0 size 1 fresh 5;fish god at 0 size 1 fresh 9"), "turn 4 if lying > 1");
    y.days(1);
    is("both lie ahead of it", y.gone(), 3);
    LastCatch z = law(sea("boat hold 9;fish god at 0 size 1 fresh 20;fish god at 0 size 1 fresh 20"), "turn 7 if fresh < 20;keep 5 if day > 0");
    z.days(1);
    is("each by its own FRESH, the DAY not yet more", z.fish(0, 2) * 100 + z.fish(1, 2), 1515);
  }

  private static void melting() {
    sentence("ICE is 1 less (0 at least)");
    LastCatch x = sea("ice 2");
    int[] ice = {1, 0, 0, 0};
    for (int i : ice) { x.days(1); is("ice", x.count(6), i); }
    x.ice(1);
    x.days(60);
    is("ice", x.count(6), 0);
  }

  private static void buying() {
    sentence("CHOICE: as FRESH as his LEAST and whose PRICE is at most his MONEY, the most FRESH (of several the least); none");
    LastCatch x = lying("fish god at 0 size 1 fresh 55", "buyer god money 7 least 50 keen 100;buyer god money 6 keen 100;buyer god money 99 least 51 keen 100;buyer tell money 99 keen 100");
    is("at his money and his least", x.buyer(0, 4), 0);
    is("1 too dear", x.buyer(1, 4), -1);
    is("1 too old", x.buyer(2, 4), -1);
    is("another kind", x.buyer(3, 4), -1);
    is("without", x.without(), 14);
    LastCatch s = sea("fish god at 0 size 1;buyer god money 99");
    is("in the sea", s.buyer(0, 4), -1);
    LastCatch several = lying("fish god at 0 size 1 fresh 50;fish god at 0 size 9 fresh 60;fish god at 0 size 2 fresh 60", "buyer god money 99;buyer god money 9;buyer god money 7;buyer god money 5");
    is("of two the least", several.buyer(0, 4), 1);
    is("18 is too dear", several.buyer(1, 4), 2);
    is("9 too", several.buyer(2, 4), 0);
    is("5 has none", several.buyer(3, 4), -1);

    sentence("he buys: it is GONE, MONEY is PRICE less, TILL is PRICE more (at exactly his MONEY: 0 left)");
    LastCatch y = sea("boat hold 9;fish god at 0 size 1 fresh 55;buyer god money 7 least 50 keen 100");
    is("bought", y.days(1), 1);
    is("money, till", y.buyer(0, 1) * 100 + y.count(7), 7);
    is("gone as it was", y.fish(0, 3) * 100 + y.fish(0, 2), 350);
    is("0 money, so none", y.buyer(0, 4), -1);

    sentence("each BUYER, by numbers");
    LastCatch z = law(sea("boat hold 9;" + times(2, "fish god at 0 size 1", ";") + ";buyer god money 11 keen 100;buyer god money 10 keen 100"), "dear 1 if lying > 1");
    is("the second pays less", z.days(1), 2);
    is("till", z.count(7), 21);
    is("money", z.buyer(0, 1) + z.buyer(1, 1), 0);
  }

  private static int drawn(int seed) { return (int) (((1103515245L * seed + 12345) >> 16) & 32767); }
  private static int next(int seed) {
    java.math.BigInteger whole = java.math.BigInteger.valueOf(1103515245).multiply(java.math.BigInteger.valueOf(seed)).add(java.math.BigInteger.valueOf(12345));
    return whole.intValue();
  }

  private static void draws() {
    sentence("if DRAW modulo 100 is below KEEN");
    int[] seeds = {1, 2, 0, -1, 99, 12345678, Integer.MIN_VALUE, Integer.MAX_VALUE};
    for (int seed : seeds) {
      int draw = drawn(seed) % 100;
      for (int keen : new int[] {0, draw, draw + 1, 100}) {
        LastCatch x = sea("boat hold 9;fish god at 0 size 1;buyer god money 99 keen " + keen);
        x.seed(seed);
        is("seed " + seed + ", keen " + keen, x.days(1), draw < keen ? 1 : 0);
      }
    }

    sentence("SEED is 1103515245 times SEED and 12345, as an int that goes round; bits 16 to 30");
    for (int seed : seeds) {
      LastCatch x = sea("buyer god money 99 keen 50;buyer god money 99 keen 0");
      is("at first", x.seed(seed), 1);
      x.days(1);
      is("two draws from " + seed, x.seed(0), next(next(seed)));
    }

    sentence("(the DRAW always) (of no BUYERS none)");
    LastCatch none = sea("boat hold 1");
    none.days(60);
    is("none", none.seed(0), 1);
    LastCatch x = sea("buyer god money 0 keen 0;buyer god money 0 keen 100");
    x.days(2);
    is("four", x.seed(0), next(next(next(next(1)))));
  }

  private static void daysOn() {
    sentence("So many DAYS more (1 to 60)");
    LastCatch x = new LastCatch();
    refuses("days", ARGUMENT, x::days, -1, 0, 61);
    x.days(1);
    x.days(60);
    is("day", x.count(8), 61);

    sentence("how many FISH were bought in these");
    LastCatch y = sea("boat hold 9;" + times(8, "fish god at 0 size 1", ";") + ";buyer god money 999 keen 100");
    is("one a day", y.days(3), 3);
    is("of these alone", y.days(1), 1);
    is("the rest", y.days(60), 4);
    is("none is left", y.days(60), 0);

    sentence("DAY is 1 more (9999 at most)");
    LastCatch z = sea("day 999;boat hold 1;fish god at 0 size 1 fresh 99;buyer god money 99 keen 0");
    law(z, "keep 5");
    for (int i = 0; i < 149; i++) z.days(60);
    z.days(59);
    is("9998", z.count(8), 9998);
    z.days(1);
    is("9999", z.count(8), 9999);
    z.days(1);
    z.days(60);
    is("9999 stays", z.count(8), 9999);
    z.sell(0, 0);
    log(z, 0, 9999, 0, 3, 0, 99);
    is("led", z.led(0, true), 9999);
    law(z, "dear 9 if day > 98");
    is("day modulo 100 of it", z.fish(0, 7), 2 + 9 + 9);
    is("a trial", z.trial(60, false), 11);
  }

  private static void inDays() {
    sentence("IN N DAYS (0 to 60): as so many DAYS without (e) (no DRAWS)");
    LastCatch x = sea("boat hold 9;fish god at 0 size 1;fish god at 9 size 1;buyer god money 99 keen 100");
    refuses("where", ARGUMENT, n -> x.where(0, n), -1, 61);
    refuses("spoils", ARGUMENT, x::spoils, -1, 61);
    refuses("trial", ARGUMENT, n -> x.trial(n, false), -1, 61);
    refuses("span", ARGUMENT, n -> x.span(n, true), -1, 61);
    is("where 0 and 60", x.where(0, 0) * 100 + x.where(1, 60), 9);
    is("nobody buys: it turns on day 18", x.spoils(17) * 10 + x.spoils(18), 1);
    is("and in 60", x.spoils(60), 1);
    is("no draws", x.seed(1), 1);
    is("nothing stays", x.count(8) + x.count(10) + x.count(11), 0);
  }

  private static void acts() {
    sentence("ACTS (each also if it changes nothing)");
    LastCatch x = sea("boat hold 9 at 3;fish god at 3 size 1;fish god at 0 size 1;boat hold 9;buyer god money 999 keen 0", "ice 999");
    x.days(1);
    is("days", x.count(11), 1);
    x.heads(0, -1);
    is("heads to none, as it did", x.count(11), 2);
    x.ice(1);
    x.ice(1);
    is("ice, 999 as it was", x.count(11), 4);
    x.sponge(1, 99);
    x.sponge(1, 1);
    is("a sponge, 99 as it was", x.count(11), 6);
    x.pay(0, 1);
    is("pay, 999 as it was", x.count(11), 7);
    x.current(7, 4);
    is("a current as it was", x.count(11), 8);
    x.tell(0, 0, 1);
    x.release(0);
    x.sell(1, 0);
    is("tell, release, sell", x.count(11), 11);
    x.heads(0, 3);
    is("12", x.count(11), 12);
    x.heads(0, 3);
    is("12 at most", x.count(11), 12);
    for (int i = 0; i < 12; i++) is("undone", x.undo(), true);
    is("no more", x.undo(), false);
    is("the first is not undone", x.count(8), 1);

    sentence("one of the SLAB, or of a BOAT, is thrown back (in the SEA at the HARBOUR, or at the CELL of the BOAT)");
    LastCatch y = sea("boat hold 9;boat hold 1 at 24;fish god at 0 size 1;fish god at 24 size 1;fish god at 24 size 1;fish god at 0 size 1 fresh 1");
    y.days(1);
    is("at the harbour", y.release(0), 0);
    is("at the boat", y.release(1), 24);
    is("sea", y.sea(), 7);
    is("as fresh as it was", y.fish(0, 2), 85);
    for (int f : new int[] {0, 1, 2}) fails("in the sea: " + f, STATE, () -> y.release(f));
    fails("gone", STATE, () -> y.release(3));
    y.days(1);
    is("caught again", y.slab() * 10 + y.boat(1, 3), 12);

    sentence("sponge: it is not on the SLAB");
    LastCatch z = sea("boat hold 9;boat hold 1 at 24;fish god at 0 size 1 fresh 1;fish god at 24 size 1;fish god at 24 size 1");
    z.days(1);
    fails("gone", STATE, () -> z.sponge(0, 1));
    fails("in a boat", STATE, () -> z.sponge(1, 1));
    fails("in the sea", STATE, () -> z.sponge(2, 1));

    sentence("sell: it is not on the SLAB, or PRICE is above MONEY");
    LastCatch s = sea("boat hold 9;boat hold 1 at 24;fish god at 0 size 1 fresh 1;fish god at 24 size 1;fish god at 24 size 1;fish god at 0 size 1", "buyer tell money 10 least 99;buyer tell money 9;buyer tell money 999");
    s.days(1);
    fails("gone", STATE, () -> s.sell(0, 2));
    fails("in a boat", STATE, () -> s.sell(1, 2));
    fails("in the sea", STATE, () -> s.sell(2, 2));
    fails("1 above", STATE, () -> s.sell(3, 1));
    is("at his money", s.sell(3, 0), 10);
    is("money 0, till 10", s.buyer(0, 1) * 100 + s.count(7), 10);
    fails("sold", STATE, () -> s.sell(3, 2));

    sentence("TILL is so much more (the dearest ones)");
    LastCatch t = law(sea("boat hold 9;" + times(8, "fish god at 0 size 9 fresh 99", ";"), "buyer god money 999"), times(11, "dear 88", ";"));
    law(t, times(9, "dear 99", ";") + ";dear 82;keep 5");
    t.days(60);
    is("price", t.fish(0, 7), 18 + 9 + 891 + 82);
    fails("1000 is above any money", STATE, () -> t.sell(0, 0));
    law(t, times(9, "dear 99", ";") + ";dear 81;keep 5");
    for (int f = 0; f < 8; f++) {
      is("sell", t.sell(f, 0), 999);
      is("till", t.count(7), 999 * (f + 1));
      t.pay(0, 999);
    }
  }

  // ---- the log

  private static void theLog() {
    sentence("by BOATS, of one by FISH, then those turned by FISH, then by BUYERS");
    LastCatch x = sea("boat hold 9 at 6;boat hold 9;boat hold 9 at 1 heads 0;fish god at 0 size 1 fresh 3;fish tell at 6 size 1 fresh 40;fish god at 0 size 1 fresh 99;fish god at 6 size 1 fresh 2",
      "buyer god money 99 keen 100;buyer god money 99 keen 100;day 7;fish god at 0 size 1 fresh 80");
    is("two are bought", x.days(1), 2);
    is("rows", x.count(10), 5 + 2 + 2);
    log(x, 8, 7, 1, 0, 0, 40);
    log(x, 7, 7, 3, 0, 0, 2);
    log(x, 6, 7, 0, 0, 1, 3);
    log(x, 5, 7, 2, 0, 1, 99);
    log(x, 4, 7, 4, 0, 1, 80);
    log(x, 3, 7, 0, 1, -1, 0);
    log(x, 2, 7, 3, 1, -1, 0);
    log(x, 1, 7, 2, 2, 0, 94);
    log(x, 0, 7, 4, 2, 1, 75);

    sentence("the latest 60 FISH");
    LastCatch y = law(sea("boat hold 9;" + times(8, "fish god at 0 size 1", ";")), "keep 5");
    for (int i = 0; i < 7; i++) {
      y.days(1);
      for (int f = 0; f < 8; f++) y.release(f);
    }
    is("56", y.count(10), 56);
    for (int f = 0; f < 5; f++) { y.current(0, 0); }
    y.days(1);
    is("60, not 64", y.count(10), 60);
    log(y, 59, 0, 4, 0, 0, 90);
    log(y, 0, 7, 7, 0, 0, 90);
    is("led of one whose oldest is forgotten", y.led(3, false), 7);
    is("led of one whose oldest is kept", y.led(4, false), 8);
    is("the day of the latest", y.led(3, true), 7);
    LastCatch z = law(sea("boat hold 9;fish god at 0 size 1;fish god at 0 size 1"), "keep 5");
    for (int i = 0; i < 30; i++) { z.days(1); z.release(0); z.release(1); }
    is("60 at once full", z.count(10), 60);
    log(z, 59, 0, 0, 0, 0, 90);
    z.days(1);
    is("60 still", z.count(10), 60);
    log(z, 59, 1, 0, 0, 0, 90);
    log(z, 0, 30, 1, 0, 0, 90);

    sentence("log: so many ago (0 the latest); - 2 without");
    for (int n : FAR) is("log(" + n + ")", z.log(n, 0), -2);
    is("-1, 60", z.log(-1, 0) + z.log(60, 4), -4);
    is("of none", new LastCatch().log(0, 0), -2);
    fails("another what, without a row", ELEMENT, () -> new LastCatch().log(0, 5));

    sentence("LED: how many rows; the DAY of the latest (none)");
    LastCatch l = sea("boat hold 9;fish god at 1 size 1");
    is("none", l.led(0, false) * 10 + l.led(0, true), -1);
    refuses("led", INDEX, n -> l.led(n, false), -1, 1);
  }

  // ---- what is ahead

  private static void whereAndCaught() {
    sentence("WHERE: none, if it is not in the SEA then");
    LastCatch x = sea("boat hold 1 at 24 heads 20;fish god at 20 size 1;fish god at 0 size 1;boat hold 1 at 6;fish god at 6 size 1 fresh 1");
    is("the day ahead", x.where(0, 3), 20);
    is("that day", x.where(0, 4), -1);
    is("never", x.where(1, 60), 0);
    x.days(1);
    is("gone", x.where(2, 0), -1);
    x.days(3);
    is("in a boat", x.where(0, 0), -1);
    refuses("where", INDEX, n -> x.where(n, 0), -1, 3);

    sentence("CAUGHT: the first N (0 to 60) IN which it is not in the SEA; none");
    is("in a boat: 0", x.fish(0, 8), 0);
    is("gone: 0", x.fish(2, 8), 0);
    is("never", x.fish(1, 8), -1);
    for (int fresh : new int[] {57, 58, 59, 60}) {
      LastCatch y = law(sea("boat hold 1 at 12;fish god at 12 size 1 fresh " + fresh + ";fish god at 12 size 1"), "keep 4");
      is("caught in " + (fresh + 1), y.fish(1, 8), fresh < 60 ? fresh + 1 : -1);
      is("where it is in 60", y.where(1, 60), fresh < 60 ? -1 : 12);
    }
  }

  private static void meetsAndLost() {
    sentence("MEETS: the first N (0 to 60); none (also of a FISH that is not in the SEA)");
    LastCatch x = sea("boat hold 1;boat hold 1 at 24;fish god at 0 size 1;fish god at 24 size 1;current 24 up");
    is("there already: 0", x.meets(0, 0), 0);
    is("there already: 0", x.meets(1, 1), 0);
    is("the farthest: 8", x.meets(1, 0), 8);
    is("it drifts off the other way, and stays at 19", x.meets(0, 1), 7);
    x.days(1);
    is("on the slab", x.meets(0, 0), -1);
    refuses("meets", INDEX, n -> x.meets(n, 0), -1, 2);
    refuses("meets", INDEX, n -> x.meets(0, n), -1, 2);
    LastCatch round = sea("current 6 right down;current 12 left up;current 11 up;current 7 down;fish god at 6 size 1;boat hold 1 at 24");
    is("6 7 12 11 6 7: from 24 to 12 in 4? to 7 in 5", round.meets(0, 0), 5);

    sentence("LOST: FISH in the SEA that no BOAT MEETS");
    LastCatch y = sea("fish god at 0 size 1;fish god at 24 size 1");
    is("no boat: all", y.lost(), 3);
    is("none there", new LastCatch().lost(), 0);
    sea(y, "boat hold 1 at 12");
    is("a boat meets all", y.lost(), 0);
    LastCatch full = sea("boat hold 1 at 12;fish god at 12 size 1;fish god at 0 size 1");
    full.days(1);
    is("a full one too", full.lost(), 0);
  }

  private static void hauls() {
    sentence("HAUL of a BOAT and N (0 to 5); FIRST: none of 0 DAYS");
    LastCatch x = sea("boat hold 9 at 6;fish god at 6 size 9;fish god at 1 size 1");
    refuses("haul", ARGUMENT, n -> x.haul(0, n), -1, 6);
    refuses("first", ARGUMENT, n -> x.first(0, n), -1, 6);
    refuses("haul", INDEX, n -> x.haul(n, 0), -1, 1);
    refuses("first", INDEX, n -> x.first(n, 0), -1, 1);
    is("0", x.haul(0, 0), 0);
    is("of 0 none", x.first(0, 0), -1);
    is("1: it stays", x.haul(0, 1) * 10 + x.first(0, 1), 94);
    is("2: stays and up, or up and back: up is less", x.haul(0, 2) * 10 + x.first(0, 2), 102);
    is("of 0 none, behind another", x.first(0, 0), -1);
    is("and nothing", x.haul(0, 0), 0);
    is("5", x.haul(0, 5) * 10 + x.first(0, 5), 100);

    sentence("going on to a CELL BESIDE or staying (at the edges of THE SEA)");
    int[] corners = {0, 4, 20, 24, 2, 10, 14, 22};
    int[] lesser = {1, 0, 1, 0, 0, 1, 0, 0};
    for (int i = 0; i < corners.length; i++) is("the least move from " + corners[i], sea("boat hold 1 at " + corners[i]).first(0, 1), lesser[i]);
    for (int c = 0; c < 25; c++) for (int f : new int[] {0, 4, 20, 24, 12, 9, 10}) {
      int far = Math.abs(c % 5 - f % 5) + Math.abs(c / 5 - f / 5);
      LastCatch y = sea("boat hold 1 at " + c + ";fish god at " + f + " size 7");
      for (int n = 0; n <= 5; n++) is("from " + c + " to " + f + " in " + n, y.haul(0, n), n > 0 && far <= n ? 7 : 0);
    }

    sentence("as long as its HOLD is not full; FISH in it already count for HOLD, not for SIZES");
    LastCatch eight = sea("boat hold 9 at 12;" + times(7, "fish god at 12 size 9", ";") + ";fish god at 12 size 5");
    is("all eight", eight.haul(0, 1), 68);
    LastCatch seven = sea("boat hold 7 at 12;" + times(7, "fish god at 12 size 9", ";") + ";fish god at 12 size 5");
    is("seven of eight", seven.haul(0, 5), 63);
    LastCatch z = sea("boat hold 2 at 12;fish god at 12 size 9;fish god at 13 size 3;fish god at 13 size 5;fish god at 11 size 4");
    z.days(1);
    is("room for one, by numbers", z.haul(0, 1), 4);
    is("left", z.first(0, 1), 0);
    LastCatch w = sea("boat hold 1 at 12;fish god at 12 size 9;fish god at 13 size 3");
    w.days(1);
    is("full", w.haul(0, 5), 0);

    sentence("nothing is unladen, no other BOAT is there");
    LastCatch u = sea("boat hold 1;boat hold 1;fish god at 0 size 2;fish god at 0 size 3;fish god at 1 size 9");
    is("1 at the harbour is not unladen; at 1 it has 9", u.haul(0, 5), 9);
    is("the other one too", u.haul(1, 5), 9);

    sentence("first the FISH drift, then it moves, then it catches");
    LastCatch d = sea("current 12 right right;boat hold 9 at 12;fish god at 12 size 5;fish god at 14 size 1");
    is("it follows at once", d.haul(0, 1) * 10 + d.first(0, 1), 51);
    is("staying has nothing", sea("current 12 right;boat hold 9 at 12;fish god at 12 size 5;current 13 right").first(0, 1), 1);
  }

  private static void rounds() {
    sentence("ROUND: whether by DRIFT, on and on, one comes back to it (also by staying)");
    LastCatch x = sea("current 0 " + times(4, "right", " ") + " down;current 9 down;current 14 down;current 19 down;current 24 left;current 23 left;current 22 left;current 21 left;current 20 up;current 15 up;current 10 up;current 5 up");
    for (int c : new int[] {0, 1, 2, 3, 4, 9, 14, 19, 24, 23, 22, 21, 20, 15, 10, 5}) is("round all the sea " + c, x.cell(c, 3), x.cell(4, 1) == 9 ? 1 : 0);
    is("the sea's edge is no wall here", x.cell(4, 1), 9);
    LastCatch y = new LastCatch();
    is("by staying", y.cell(7, 3), 1);
    y.current(0, 0);
    is("against the edge", y.cell(0, 3), 1);
    y.current(1, 0);
    is("that leads there", y.cell(1, 3), 0);
    String there = times(4, "right", " ") + " down ";
    String back = "down " + times(4, "left", " ") + " ";
    LastCatch snake = sea("current 0 " + there + back + there + back + times(5, "right", " "));
    is("a snake through all ends at 24", snake.cell(24, 3), 1);
    is("0 is not come back to", snake.cell(0, 3), 0);

    sentence("EDDY: from the most CELLS (itself, too; of several the least)");
    is("all alike", new LastCatch().eddy(), 0);
    is("all lead to 24", snake.eddy(), 24);
    LastCatch two = sea("current 23 right;current 1 left");
    is("0 and 24 from two each", two.eddy(), 0);
    two.current(19, 3);
    is("24 from three", two.eddy(), 24);
    is("a round: all from the same", sea("current 18 right;current 19 left;current 17 right").eddy(), 18);
    is("the edge", sea("current 24 right;current 23 right").eddy(), 24);
  }

  // ---- the dead

  private static void whose() {
    sentence("WHOSE: SIZES of all FISH of one together at most its BREATH");
    LastCatch x = sea("fish god at 0 size 4;fish god at 0 size 5;dead god breath 9;dead god breath 3");
    is("9 is just enough", x.whose(-1) * 100 + x.whose(0) * 10 + x.whose(1), 200);
    LastCatch y = sea("fish god at 0 size 4;fish god at 0 size 5;dead god breath 8;dead god breath 3");
    is("8 is not", y.whose(-1) * 100 + y.whose(0) * 10 + y.whose(1), 99);
    is("breath 0", sea("fish god at 0 size 1;dead god breath 0").whose(-1), 0);
    is("without dead", sea("fish god at 0 size 1").whose(0), -1);
    is("without fish", sea("dead god breath 9").whose(-1), 0);

    sentence("in the first such way (FISH by FISH, the DEAD by numbers, none behind all); none");
    LastCatch z = sea("fish god at 0 size 2;fish god at 0 size 2;fish god at 0 size 2;dead god breath 2;dead god breath 4");
    is("0 1 1", z.whose(0) * 100 + z.whose(1) * 10 + z.whose(2), 11);
    LastCatch w = sea("fish god at 0 size 9;fish god at 0 size 5;fish god at 0 size 4;dead god breath 9");
    is("the great one goes without", w.whose(-1) * 1000 + w.whose(0) * 100 + w.whose(1) * 10 + w.whose(2), 2000 - 100);
    LastCatch eight = sea(times(8, "fish god at 0 size 9", ";"), "dead god breath 72");
    is("all eight", eight.whose(-1) * 10 + eight.whose(7), 80);
    LastCatch less = sea(times(8, "fish god at 0 size 9", ";"), "dead god breath 71");
    is("seven", less.whose(-1) * 10 + less.whose(7), 69);
    refuses("whose", INDEX, less::whose, -2, 8);

    sentence("FISH (not GONE)");
    LastCatch g = sea("boat hold 9;fish god at 0 size 1 fresh 1;fish god at 0 size 1;fish god at 3 size 1;dead god breath 2");
    g.days(1);
    is("on the slab and in the sea", g.whose(-1), 2);
    is("the gone one is nobody's", g.whose(0) * 100 + g.whose(1) * 10 + g.whose(2), -100);

    sentence("MAYBE: whose BREATH is SIZE at least");
    LastCatch m = sea("fish god at 0 size 5;dead god breath 4;dead god breath 5;dead god breath 6;dead tell breath 99;dead tell god breath 5;dead god breath 0");
    is("maybe", m.fish(0, 9), 2 + 4 + 16);
    is("nobody", sea("fish god at 0 size 1").fish(0, 9), 0);
  }

  private static void partedAndFewest() {
    sentence("PARTED of S (0 to 99): to each some part of 0 to BREATH (without DEAD: 1 of S 0, else 0)");
    LastCatch x = new LastCatch();
    refuses("parted", ARGUMENT, x::parted, -1, 100);
    is("without, 0", x.parted(0), 1);
    is("without, 1 and 99", x.parted(1) + x.parted(99), 0);
    LastCatch one = sea("dead god breath 99");
    is("one: 0 and 99", one.parted(0) * 10 + one.parted(99), 11);
    LastCatch less = sea("dead god breath 98");
    is("98 of 98, 99 of 98", less.parted(98) * 10 + less.parted(99), 10);
    LastCatch none = sea("dead god breath 0;dead god breath 0");
    is("breath 0", none.parted(0) * 10 + none.parted(1), 10);
    is("six of 99", sea(times(6, "dead god breath 99", ";")).parted(99), 91962520);
    is("six of 1", sea(times(6, "dead god breath 99", ";")).parted(1), 6);
    LastCatch two = sea("dead god breath 50;dead god breath 49");
    is("99 of 99", two.parted(99), 1);
    is("98 of 99", two.parted(98), 2);

    sentence("FEWEST: the fewest DEAD who can have it so (of several the least as bits; nobody of S 0); none");
    refuses("fewest", ARGUMENT, x::fewest, -1, 100);
    is("without, 0", x.fewest(0), 0);
    is("without, 1", x.fewest(1), -1);
    is("two: 99", two.fewest(99), 3);
    is("two: 50", two.fewest(50), 1);
    is("two: 51", two.fewest(51), 3);
    is("two: 0", two.fewest(0), 0);
    is("98: 99", less.fewest(99), -1);
    is("99: 99", one.fewest(99), 1);
    is("breath 0", none.fewest(0) * 10 + none.fewest(1), -1);
    is("all six", sea(times(6, "dead god breath 16", ";"), "").fewest(96), 63);
    is("not even six", sea(times(6, "dead god breath 16", ";"), "").fewest(97), -1);
    is("the least of two pairs", sea("dead god breath 1;dead god breath 5;dead god breath 5;dead god breath 9").fewest(10), 6);
    is("one, though others are less as bits", sea("dead god breath 5;dead god breath 5;dead god breath 9").fewest(9), 4);
  }

  private static byte[] rows(int many, int day, int fresh) {
    byte[] b = new byte[2 * many];
    for (int i = 0; i < many; i++) { b[2 * i] = (byte) day; b[2 * i + 1] = (byte) fresh; }
    return b;
  }

  private static void turnedRows() {
    sentence("of each two bytes: the day, how FRESH, both 0 to 99; at most 40 bytes (none may be told)");
    LastCatch x = new LastCatch();
    is("none", x.turned(false), 2000);
    is("none", x.turned(true), 0);
    is("none", x.ask() >= 0, true);
    is("20 rows", tape(x, rows(20, 0, 99)).turned(false), 2000);
    fails("21 rows", ARGUMENT, () -> tape(x, rows(21, 0, 99)).turned(false));
    fails("200 rows", ARGUMENT, () -> tape(x, rows(200, 0, 99)).turned(false));
    for (int n : new int[] {1, 3, 39, 41, 399}) {
      fails(n + " bytes", ARGUMENT, () -> tape(x, new byte[n]).turned(false));
      fails(n + " bytes", ARGUMENT, () -> tape(x, new byte[n]).ask());
    }
    for (int n : new int[] {100, 127, 128, 200, 255}) {
      fails("day " + n, ARGUMENT, () -> tape(x, n, 99).turned(true));
      fails("fresh " + n, ARGUMENT, () -> tape(x, 0, n).turned(true));
      fails("day " + n, ARGUMENT, () -> tape(x, n, 99).ask());
      fails("fresh " + n, ARGUMENT, () -> tape(x, 0, n).ask());
      fails("behind a right one", ARGUMENT, () -> tape(x, 0, 99, n, 99).turned(true));
      fails("the 20th", ARGUMENT, () -> {
        byte[] b = rows(20, 0, 99);
        b[39] = (byte) n;
        return tape(x, b).turned(false);
      });
    }
    is("no rows stay from a wrong one", x.turned(false), 2000);
    is("day 99, fresh 99", tape(x, 99, 99).turned(false), 100 + 19);
    is("day 99, fresh 0", tape(x, 99, 0).turned(true), 100);
    is("day 0, fresh 99", tape(x, 0, 99).turned(false), 2000);
    is("day 0, fresh 98: it can't have turned yet", tape(x, 0, 98).turned(false), 0);
    is("none fits", tape(x, 0, 98).turned(true), -1);
    is("none fits", tape(x, 0, 98).ask(), -1);
  }

  private static void turnedAnswers() {
    sentence("FRESH is 99 till then, then so much less each day, 0 at least");
    LastCatch x = new LastCatch();
    is("99 on 50, 98 on 51: by 1 since 50", tape(x, 50, 99, 51, 98).turned(true), 150);
    is("that alone", tape(x, 50, 99, 51, 98).turned(false), 1);
    is("by 1 since 80, or by 19 since 98", tape(x, 99, 80).turned(true), 180);
    is("these two", tape(x, 99, 80).turned(false), 2);
    is("by 19 since 98", tape(x, 98, 99, 99, 80).turned(true), 1998);
    is("79 is by 1 since 79, 2 since 89, 4 since 94, 5 since 95, 10 since 97", tape(x, 99, 79).turned(true) * 10 + tape(x, 99, 79).turned(false), 1795);
    // 99 less 19 times 5 is 4, times 6 is below 0
    is("4 and 0", tape(x, 5, 4, 6, 0).turned(true), 1900);
    is("4 and 0", tape(x, 5, 4, 6, 0).turned(false), 1);
    is("0 stays 0", tape(x, 5, 4, 6, 0, 7, 0, 99, 0).turned(false), 1);
    is("never below", tape(x, 5, 4, 6, 1).turned(false), 0);
    is("it does not grow", tape(x, 5, 4, 6, 5).turned(false), 0);

    sentence("CATCH; the first (100 times how much and the day); none");
    // 75 is 24 less: by 1 since 6, by 2 since 18, by 3 since 22, by 4 since 24, by 6, 8, 12
    is("24 less on 30", tape(x, 30, 75).turned(true), 106);
    is("so many", tape(x, 30, 75).turned(false), 7);
    is("nothing turned: by 0 since 0", tape(x, 99, 99).turned(true), 0);
    is("the row twice", tape(x, 30, 75, 30, 75).turned(true), 106);
    is("two unlike ones of one day", tape(x, 30, 75, 30, 74).turned(true), -1);
  }

  private static void asks() {
    sentence("ASK: the greatest part is the least (of several the least; none with fewer than two)");
    LastCatch x = new LastCatch();
    is("one fits", tape(x, 50, 99, 51, 98).ask(), -1);
    is("none fits", tape(x, 0, 98).ask(), -1);
    // by 1 since 97 or by 2 since 98: on day 98 they are 98 and 99
    is("two fit", tape(x, 99, 97).turned(false), 2);
    is("98 parts them", tape(x, 99, 97).ask(), 98);
    // caught on 99, or never turning: no day parts them
    is("none parts them: the least", tape(x, 99, 99, 50, 99).ask(), 0);
    is("by 0 since any, others since 99: 119 alike on all days", tape(x, 99, 99).ask(), 0);
    int best = -1;
    int least = 9999;
    for (int day = 0; day < 100; day++) {
      int[] parts = new int[100];
      for (int much = 0; much < 20; much++) for (int since = 0; since < 100; since++) parts[Math.max(0, 99 - much * Math.max(0, day - since))]++;
      int most = Arrays.stream(parts).max().getAsInt();
      if (most < least) { least = most; best = day; }
    }
    is("of all 2000", tape(x, "").ask(), best);
  }

  // ---- the slab

  private static void sales() {
    sentence("SALE: each to one of its own at most, of his WANT, as FRESH as his LEAST and not above his MONEY");
    LastCatch x = lying("fish god at 0 size 1 fresh 55", "buyer god money 7 least 50;buyer god money 6;buyer god money 9 least 51;buyer tell money 99");
    is("at his money and his least", x.sale(-1) * 10 + x.sale(0), 70);
    is("the others", x.sale(1) + x.sale(2) + x.sale(3), -3);
    refuses("sale", INDEX, x::sale, -2, 4);
    is("no fish", sea("buyer god money 9").sale(-1) * 10 + sea("buyer god money 9").sale(0), -1);
    is("no buyers", lying("fish god at 0 size 1").sale(-1), 0);
    LastCatch full = sea("boat hold 9;" + times(7, "fish god at 0 size 1", ";") + ";fish god at 0 size 9", times(5, "buyer god money 99 keen 0", ";"));
    full.days(1);
    is("five of eight, the 8th among them", full.sale(-1), 4 * 10 + 26);
    is("in the first way the last has it", full.sale(0) * 10000 + full.sale(1) * 1000 + full.sale(2) * 100 + full.sale(3) * 10 + full.sale(4), 1237);
    LastCatch lone = sea("boat hold 9;" + times(7, "fish tell at 0 size 1", ";") + ";fish god at 0 size 9", "buyer god money 99 keen 0");
    lone.days(1);
    is("the 8th", lone.sale(0), 7);
    LastCatch few = lying("fish god at 0 size 1", times(5, "buyer god money 99", ";"));
    is("none is the least: the last has it", few.sale(0) + few.sale(1) + few.sale(2) + few.sale(3), -4);
    is("the last", few.sale(4), 0);
    LastCatch behind = lying("fish god at 0 size 1", "buyer tell money 99;buyer god money 99 keen 0;buyer god money 9 keen 0;buyer god money 99 least 99");
    is("one who has none, ahead of one who has it", behind.sale(-1) * 10 + behind.sale(1), 100);
    is("the others", behind.sale(0) + behind.sale(2) + behind.sale(3), -3);
    behind.days(2);
    is("one more can have it when it is 75 fresh", behind.buyer(1, 4), 0);
    is("cheaper than it was", behind.sale(-1), 9);
    is("in the first way the later one has it", behind.sale(1) * 10 + behind.sale(2), -10);
    behind.release(0);
    is("nothing lies there any more", behind.sale(-1) * 10 + behind.sale(2), -1);
  }

  private static void orders() {
    sentence("ORDER: how much (0 without FISH there); the k-th sold; none");
    LastCatch x = new LastCatch();
    is("without", x.order(-1), 0);
    for (int n : new int[] {-2, 0, 1, 7, 8}) is("order(" + n + ")", x.order(n), -1);
    for (int n : FAR) is("order(" + n + ")", x.order(n), -1);
    LastCatch eight = sea("boat hold 9;" + times(8, "fish god at 0 size 9 fresh 99", ";"));
    eight.days(1);
    is("all eight", eight.order(-1), 72);
    for (int k = 0; k < 8; k++) is("the " + k + "-th", eight.order(k), k);
    is("no 9th", eight.order(8), -1);
    for (int n : FAR) is("order(" + n + ")", eight.order(n), -1);

    sentence("sold ere their FRESH is 0; the first one sold as FRESH as now, the next one a day behind it");
    LastCatch y = lying("fish god at 0 size 1 fresh 10;fish god at 0 size 2 fresh 10");
    is("5 turns to 0 by the next day", y.order(-1), 2);
    is("so the greater goes first", y.order(0) * 10 + y.order(1), 10);
    LastCatch z = lying("fish god at 0 size 1 fresh 11;fish god at 0 size 2 fresh 10");
    is("6 is 1 by then", z.order(-1), 3);
    is("5 first", z.order(0) * 10 + z.order(1), 10);
    LastCatch last = lying("fish god at 0 size 1 fresh 1");
    is("one is gone: none", last.order(-1) * 10 + last.order(0), -1);
    LastCatch one = lying("fish god at 0 size 9 fresh 6");
    is("1 is enough now", one.order(-1), 9);

    sentence("of all FISH on the SLAB; by the first unlike one, the lesser");
    LastCatch w = lying(times(3, "fish god at 0 size 3 fresh 10", ";"));
    is("one of three", w.order(-1), 3);
    is("0 1 2", w.order(0) * 100 + w.order(1) * 10 + w.order(2), 12);
    LastCatch mixed = sea("boat hold 9;boat hold 9 at 9;fish god at 9 size 9;fish god at 0 size 1;fish god at 3 size 9;fish god at 0 size 1");
    mixed.days(1);
    is("those alone", mixed.order(-1) * 100 + mixed.order(0) * 10 + mixed.order(1), 213);
    is("no 3rd", mixed.order(2), -1);
  }

  private static int chased(int gap, boolean two, boolean three, int left) {
    if (gap <= 0) return 0;
    if (left == 0) return 99;
    int most = 0;
    for (int school = 1; school <= (two ? 1 : 2); school++) {
      int few = 99;
      for (int he = 1; he <= (three ? 1 : 3); he += 2) few = Math.min(few, 1 + chased(gap + school - he, school == 2, he == 3, left - 1));
      most = Math.max(most, few);
    }
    return most;
  }

  private static void chases() {
    sentence("CHASE of G (0 to 20) and T (0 to 12): at most T (0 of the gap 0); none");
    LastCatch x = new LastCatch();
    refuses("g", ARGUMENT, n -> x.chase(n, 0), -1, 21);
    refuses("t", ARGUMENT, n -> x.chase(0, n), -1, 13);
    for (int t = 0; t <= 12; t++) is("gap 0 in " + t, x.chase(0, t), 0);
    for (int g = 1; g <= 20; g++) is("no turn", x.chase(g, 0), -1);
    LastCatch y = new LastCatch();
    for (int g = 0; g <= 20; g++) for (int t = 0; t <= 12; t++) {
      int due = chased(g, false, false, t);
      is("chase(" + g + ", " + t + ")", y.chase(g, t), due <= t ? due : -1);
    }
    is("all 12 turns", y.chase(6, 12) * 100 + y.chase(6, 11), 1111);
    is("one more is too far", y.chase(7, 12), -1);
  }

  private static void pairs() {
    sentence("PAIRS: each in one such pair at most, none of one KIND");
    LastCatch x = sea("fish god at 0 size 9;fish god at 0 size 9");
    is("of one kind", x.pairs(-1) * 10 + x.pairs(0) + x.pairs(1), -2);
    is("no fish", new LastCatch().pairs(-1), 0);
    LastCatch one = sea("fish god at 0 size 9");
    is("one alone", one.pairs(-1) * 10 + one.pairs(0), -1);
    refuses("pairs", INDEX, one::pairs, -2, 1);
    LastCatch odd = sea("fish god at 0 size 9;fish tell at 0 size 9;fish horse at 0 size 9");
    is("the first of three is left out", odd.pairs(-1) * 1000 + odd.pairs(0) * 100 + odd.pairs(1) * 10 + odd.pairs(2), 18000 - 100 + 20 + 1);
    LastCatch eight = sea(times(4, "fish god at 0 size 1", ";") + ";" + times(4, "fish saying at 0 size 9", ";"));
    is("all eight", eight.pairs(-1), 40);
    for (int f = 0; f < 8; f++) is("with", eight.pairs(f), (f + 4) % 8);

    sentence("in the first such way (FISH by FISH, none being the least, then the others); FISH (not GONE)");
    LastCatch y = sea("boat hold 9;fish god at 0 size 1 fresh 1;fish tell at 5 size 1;fish horse at 5 size 1;fish horse at 0 size 1");
    y.days(1);
    is("the gone one is in none", y.pairs(-1) * 10 + y.pairs(0), 19);
    LastCatch z = sea("boat hold 9;fish god at 0 size 1;fish tell at 0 size 2 fresh 12;buyer god money 99 keen 0");
    z.days(1);
    is("order, sale, pairs", z.order(-1) * 1000 + z.sale(-1) * 10 + z.pairs(-1), 3000 + 100 + 3);
    is("order", z.order(1), 1);
    z.days(2);
    is("one alone behind an order of two", z.gone() * 10 + z.pairs(-1) + z.pairs(0), 20 - 1);
    is("1 with 2 or 3", y.pairs(1) * 100 + y.pairs(2) * 10 + y.pairs(3), 200 + 10 - 1);
  }

  private static void restsAndOdds() {
    sentence("RESTS: choices from which neither would have more by its other one");
    LastCatch x = sea("boat hold 1;boat hold 9;fish god at 0 size 1;fish god at 0 size 2;fish god at 0 size 9");
    is("of like what he has either way (SIZE 1): it rests", x.rests(0, 0) * 10 + x.rests(1, 0), 44);
    is("SIZE 2: he would cast", x.rests(0, 1) + x.rests(1, 1), 0);
    is("SIZE 9", x.rests(0, 2) + x.rests(1, 2), 0);
    refuses("rests", INDEX, n -> x.rests(n, 0), -1, 2);
    refuses("rests", INDEX, n -> x.rests(0, n), -1, 3);
    x.days(1);
    is("on the slab, too", x.rests(0, 0), 4);
    for (int size = 1; size <= 9; size++) for (int hold = 1; hold <= 9; hold++) {
      LastCatch y = sea("boat hold " + hold + ";fish god at 1 size " + size);
      // of casting and waiting each, when it rises and when it dives
      int[][] he = {{size, -hold}, {1, 0}};
      int[][] school = {{-size, 1}, {2, 0}};
      int rests = 0;
      for (int c = 0; c < 4; c++) {
        if (he[c / 2][c % 2] >= he[1 - c / 2][c % 2] && school[c / 2][c % 2] >= school[c / 2][1 - c % 2]) rests |= 1 << c;
      }
      is("size " + size + ", hold " + hold, y.rests(0, 0), rests);
    }

    sentence("ODDS of N DAYS (0 to 4): in 10000, rounded down at each BUYER of each DAY");
    LastCatch o = sea("buyer god money 1 keen 99;buyer god money 1 keen 1");
    refuses("odds", ARGUMENT, o::odds, -1, 5);
    is("0", o.odds(0), 10000);
    is("100, 99", o.odds(1), 99);
    is("0.99, 0", o.odds(2), 0);
    is("4", o.odds(4), 0);
    is("no buyers", new LastCatch().odds(4), 10000);
    is("keen 100", sea("buyer god money 1 keen 100").odds(1), 0);
    is("keen 100, 0 days", sea("buyer god money 1 keen 100").odds(0), 10000);
    is("keen 0", sea("buyer god money 1 keen 0").odds(4), 10000);
    is("6700, 4489, 3007, 2014", sea("buyer god money 1 keen 33").odds(4), 2014);
    is("five of 50: 5000 2500 1250 625 312", sea(times(5, "buyer god money 0", ";")).odds(1), 312);
    is("156 78 39 19 9", sea(times(5, "buyer god money 0", ";")).odds(2), 9);
  }

  private static void bestOnes() {
    sentence("FRESHEST: of the most FRESH (of several the least; none). DEAREST: of the most PRICE likewise");
    is("none", new LastCatch().freshest() + new LastCatch().dearest(), -2);
    LastCatch sea = sea("boat hold 9 at 9;fish god at 0 size 9;fish god at 9 size 9;fish god at 9 size 1 fresh 1");
    sea.days(1);
    is("in the sea, in a boat, gone", sea.freshest() + sea.dearest(), -2);
    LastCatch eight = sea("boat hold 9;" + times(8, "fish god at 0 size 2", ";"));
    eight.days(1);
    is("of eight alike", eight.freshest() * 10 + eight.dearest(), 0);
    eight.sponge(7, 1);
    is("the 8th is fresher", eight.freshest() * 10 + eight.dearest(), 70);
    eight.sponge(7, 4);
    is("and dearer", eight.dearest(), 7);
    LastCatch one = sea("boat hold 9;fish god at 0 size 1 fresh 1");
    law(one, "keep 5").days(1);
    is("the only one", one.freshest() + one.dearest(), 0);

    sentence("SHARE of MONEY of all, in hundredths, rounded down (0 without)");
    is("0 of 0", sea("buyer god money 0;buyer god money 0").buyer(1, 5), 0);
    LastCatch s = sea("buyer god money 1;buyer god money 999;buyer god money 0;buyer god money 999;buyer god money 999");
    is("1 of 2998", s.buyer(0, 5), 0);
    is("999 of 2998", s.buyer(1, 5), 33);
    is("0 of 2998", s.buyer(2, 5), 0);
    is("all of it", sea("buyer god money 999").buyer(0, 5), 100);
    is("two of three", sea("buyer god money 2;buyer god money 1").buyer(0, 5), 66);

    sentence("WITHOUT: BUYERS who have no CHOICE");
    is("no buyers", new LastCatch().without(), 0);
    is("five", sea(times(5, "buyer god money 999", ";")).without(), 31);
  }

  private static void setsOfFish() {
    sentence("TWINS: pairs of FISH of like KIND and SIZE, GONE or not");
    is("none", new LastCatch().twins(), 0);
    is("one", sea("fish god at 0 size 1").twins(), 0);
    is("eight alike", sea(times(8, "fish god at 0 size 1", ";")).twins(), 28);
    is("like kind alone", sea("fish god at 0 size 1;fish god at 0 size 2;fish god at 0 size 3").twins(), 0);
    is("like size alone", sea("fish god at 0 size 1;fish tell at 0 size 1").twins(), 0);
    is("the first and the last", sea("fish god at 0 size 1;fish tell at 0 size 1;fish god at 0 size 2;fish god at 9 size 1").twins(), 1);

    sentence("SLAB, SEA, GONE ones, as bits. OF A KIND: FISH of it that are not GONE");
    LastCatch x = new LastCatch();
    is("none", x.slab() + x.sea() + x.gone() + x.kind(0) + x.kind(3), 0);
    LastCatch y = sea("boat hold 9;" + times(8, "fish god at 0 size 1 fresh 99", ";"));
    is("all eight", y.sea() * 1000 + y.slab(), 255000);
    y.days(1);
    is("all eight", y.slab() * 1000 + y.sea() + y.gone(), 255000);
    is("of a kind", y.kind(1) * 1000 + y.kind(0), 255000);
    is("spoils", y.spoils(18) * 1000 + y.spoils(19), 255);
    y.days(19);
    is("all gone", y.gone() * 1000 + y.slab() + y.kind(1), 255000);

    sentence("SPOILS of N: FISH not GONE now that are GONE IN N DAYS");
    is("gone already", y.spoils(60), 0);
    is("0", y.spoils(0), 0);
  }

  // ---- trials, undoing, the image

  private static void trials() {
    sentence("TRIAL of N DAYS (0 to 60) from now (draws, too; nothing stays)");
    LastCatch x = sea("boat hold 9;" + times(3, "fish god at 0 size 1", ";") + ";fish tell at 0 size 1;buyer god money 25 keen 60");
    is("0", x.trial(0, false) + x.trial(0, true), 0);
    x.days(1);
    int[] tills = new int[61];
    int[] gone = new int[61];
    LastCatch y = sea("boat hold 9;" + times(3, "fish god at 0 size 1", ";") + ";fish tell at 0 size 1;buyer god money 25 keen 60");
    y.days(1);
    for (int n = 0; n <= 60; n++) {
      tills[n] = y.count(7);
      gone[n] = Integer.bitCount(y.gone());
      y.days(1);
    }
    for (int n = 0; n <= 60; n++) is("trial " + n, x.trial(n, false) * 10 + x.trial(n, true), tills[n] * 10 + gone[n]);
    is("how many are gone then, those gone already too", y.trial(0, true), 4);
    is("nothing stays", x.count(8) * 10 + x.count(11), 11);

    sentence("SPAN: the least and the greatest TILL so from SEED 1, 2, .. 6");
    LastCatch z = sea("boat hold 9;" + times(3, "fish god at 0 size 1", ";") + ";buyer god money 25 keen 30");
    for (int n : new int[] {0, 1, 2, 5, 60}) {
      int least = 9999;
      int most = 0;
      for (int seed = 1; seed <= 6; seed++) {
        LastCatch w = sea("boat hold 9;" + times(3, "fish god at 0 size 1", ";") + ";buyer god money 25 keen 30");
        w.seed(seed);
        int till = w.trial(n, false);
        least = Math.min(least, till);
        most = Math.max(most, till);
      }
      is("least of " + n, z.span(n, false), least);
      is("most of " + n, z.span(n, true), most);
    }
    z.seed(77);
    is("SEED stays", z.span(3, true) >= 0 && z.seed(1) == 77, true);
    LastCatch sold = lying("fish god at 0 size 1", "buyer god money 25");
    sold.sell(0, 0);
    is("from TILL as it is", sold.span(60, false) * 100 + sold.span(60, true), 1010);
  }

  private static void undone() {
    sentence("UNDONE: the latest ACT not undone yet (12 are remembered; DAYS of one call are one)");
    LastCatch x = new LastCatch();
    is("none", x.undo(), false);
    for (int i = 1; i <= 13; i++) { x.ice(1); is("remembered", x.count(11), Math.min(12, i)); }
    for (int i = 12; i >= 1; i--) { is("undone", x.undo(), true); is("ice", x.count(6), 10 + i); is("left", x.count(11), i - 1); }
    is("the 13th is forgotten", x.undo(), false);
    is("ice", x.count(6), 11);
    for (int i = 0; i < 5; i++) x.ice(1);
    x.undo();
    x.undo();
    x.current(3, 3);
    is("three and one", x.count(11), 4);
    is("undone", x.undo() && x.undo() && x.count(6) == 13, true);
    LastCatch d = sea("boat hold 1 at 12 heads 14");
    d.days(60);
    d.undo();
    is("60 days are one", d.count(8) * 100 + d.boat(0, 0), 12);
    is("heads too", d.boat(0, 1), 14);

    sentence("all is as ahead of it (but for the TAPE, fault(), THE IMAGE)");
    LastCatch y = sea("boat hold 9;fish god at 0 size 1 fresh 99;fish god at 0 size 1 fresh 4;buyer god money 99 keen 50");
    String was = look(y);
    y.days(3);
    y.undo();
    checks++;
    if (!was.equals(look(y))) { wrong++; System.out.println(about + ": " + look(y) + ", due is " + was); }
    fails("a wrong text", ARGUMENT, () -> tape(y, "ice 5").law());
    tape(y, "abc");
    y.ice(1);
    y.image();
    y.undo();
    is("fault stays", y.fault(), 0);
    is("the tape stays", y.end(4) || !y.end(3), false);
    is("the image stays", y.back(), true);
    is("its ice", y.count(6), 11);

    sentence("A text, going back: none are remembered");
    for (String t : new String[] {"", "ice 1"}) {
      LastCatch z = new LastCatch();
      z.ice(1);
      tape(z, t).waters();
      is("a sea", z.count(11), 0);
      is("none", z.undo(), false);
    }
    LastCatch z = new LastCatch();
    z.ice(1);
    tape(z, "").law();
    is("a law", z.count(11), 0);
    z.ice(1);
    z.image();
    z.ice(1);
    is("an image does not", z.count(11), 2);
    z.back();
    is("going back", z.count(11), 0);
    is("none", z.undo(), false);
    z.ice(1);
    is("from then on", z.undo() && z.count(6) == 12, true);

    sentence("SEED: what it was (no ACT)");
    for (int n : new int[] {0, -1, Integer.MIN_VALUE, Integer.MAX_VALUE}) {
      z.seed(n);
      is("seed", z.seed(1), n);
    }
    is("no act", z.count(11), 0);
  }

  private static void images() {
    sentence("One goes back to THE IMAGE: true; false, and nothing happens, if none was kept");
    LastCatch x = sea("ice 3");
    x.ice(1);
    is("none", x.back(), false);
    is("nothing happens", x.count(6) * 10 + x.count(11), 41);

    sentence("THE IMAGE (one) of all may be kept, and gone back to (but for the TAPE, fault() and THE IMAGE itself)");
    LastCatch y = new LastCatch();
    y.image();
    String was = look(y);
    sea(y, times(2, "fish god at 0 size 1;boat hold 1;buyer god money 9;dead god breath 1", ";") + ";ice 5;day 5;current 0 " + times(25, "up", " "));
    law(y, "dear 9");
    y.days(2);
    y.seed(99);
    fails("wrong", ARGUMENT, () -> tape(y, "x").law());
    tape(y, "abcd");
    is("back", y.back(), true);
    checks++;
    if (!was.equals(look(y))) { wrong++; System.out.println(about + ": " + look(y) + ", due is " + was); }
    is("no law as ahead", y.count(5), -1);
    is("fault stays", y.fault(), 0);
    is("the tape stays", y.end(4), true);
    y.ice(5);
    is("back again", y.back(), true);
    is("ice", y.count(6), 10);
    y.ice(7);
    y.image();
    y.ice(1);
    y.back();
    is("the latest image alone", y.count(6), 17);
  }

  // ---- exceptions

  private static void exceptionsInOrder() {
    sentence("Of several exceptions the one told first is thrown");
    LastCatch x = sea("boat hold 9;fish god at 0 size 1;fish god at 3 size 1;buyer god money 0");
    x.days(1);
    fails("cell", INDEX, () -> x.cell(25, 9));
    fails("fish", INDEX, () -> x.fish(2, 99));
    fails("boat", INDEX, () -> x.boat(1, 9));
    fails("buyer", INDEX, () -> x.buyer(1, 9));
    fails("dead", INDEX, () -> x.dead(0, 9));
    fails("sponge: fish, n", INDEX, () -> x.sponge(2, 0));
    fails("sponge: n, place", ARGUMENT, () -> x.sponge(1, 0));
    fails("pay", INDEX, () -> x.pay(1, 0));
    fails("tell: kind, size", INDEX, () -> x.tell(4, 0, 0));
    fails("tell: cell, size", INDEX, () -> x.tell(0, 25, 0));
    fails("current", INDEX, () -> x.current(25, 5));
    fails("sell: fish, buyer", INDEX, () -> x.sell(2, 1));
    fails("sell: buyer, place", INDEX, () -> x.sell(1, 1));
    fails("sell: buyer, money", INDEX, () -> x.sell(0, 1));
    fails("where", INDEX, () -> x.where(2, 61));
    fails("haul", INDEX, () -> x.haul(1, 6));
    fails("first", INDEX, () -> x.first(1, 6));
    for (int i = 2; i < 8; i++) x.tell(0, 0, 1);
    fails("tell: kind, 8", INDEX, () -> x.tell(-1, 0, 1));
    fails("tell: cell, 8", INDEX, () -> x.tell(0, -1, 1));
    fails("tell: size, 8", ARGUMENT, () -> x.tell(0, 0, 0));
    for (int i = 1; i < 12; i++) sea(x, "");
    fails("waters: wrong, 12", ARGUMENT, () -> tape(x, "x").waters());
    fails("waters: 12", UNSUPPORTED, () -> tape(x, "ice 1").waters());
  }

  private static LastCatch busy() {
    LastCatch x = law(sea("boat hold 9;boat hold 1 at 24 heads 20;fish god at 0 size 1;fish god at 24 size 2;fish god at 23 size 3 fresh 4;fish tell at 12 size 9",
      "buyer god money 3;buyer tell money 99;dead god breath 4;current 12 up up"), "dear 2 if slab;keep 1 if iced");
    x.seed(5);
    x.days(1);
    x.heads(0, 7);
    return x;
  }

  private static void refusedCalls() {
    sentence("a call that throws changes nothing but the TAPE, where it is used up, and fault(), where a text is read");
    Supplier<LastCatch> busy = EdgeTests::busy;
    changesNothing("days(0)", ARGUMENT, busy, x -> x.days(0));
    changesNothing("days(61)", ARGUMENT, busy, x -> x.days(61));
    changesNothing("heads(2, 0)", INDEX, busy, x -> x.heads(2, 0));
    changesNothing("heads(0, 25)", INDEX, busy, x -> x.heads(0, 25));
    changesNothing("ice(0)", ARGUMENT, busy, x -> x.ice(0));
    changesNothing("ice(1000)", ARGUMENT, busy, x -> x.ice(1000));
    changesNothing("sponge(4, 1)", INDEX, busy, x -> x.sponge(4, 1));
    changesNothing("sponge(0, 100)", ARGUMENT, busy, x -> x.sponge(0, 100));
    changesNothing("sponge(3, 1)", STATE, busy, x -> x.sponge(3, 1));
    changesNothing("pay(2, 1)", INDEX, busy, x -> x.pay(2, 1));
    changesNothing("pay(0, 1000)", ARGUMENT, busy, x -> x.pay(0, 1000));
    changesNothing("tell(4, 0, 1)", INDEX, busy, x -> x.tell(4, 0, 1));
    changesNothing("tell(0, 0, 10)", ARGUMENT, busy, x -> x.tell(0, 0, 10));
    changesNothing("release(3)", STATE, busy, x -> x.release(3));
    changesNothing("release(4)", INDEX, busy, x -> x.release(4));
    changesNothing("current(0, 5)", ARGUMENT, busy, x -> x.current(0, 5));
    changesNothing("current(25, 0)", INDEX, busy, x -> x.current(25, 0));
    changesNothing("sell(0, 0)", STATE, busy, x -> x.sell(0, 0));
    changesNothing("sell(3, 1)", STATE, busy, x -> x.sell(3, 1));
    changesNothing("sell(0, 2)", INDEX, busy, x -> x.sell(0, 2));
    changesNothing("where(0, 61)", ARGUMENT, busy, x -> x.where(0, 61));
    changesNothing("haul(0, 6)", ARGUMENT, busy, x -> x.haul(0, 6));
    changesNothing("turned of 1 byte", ARGUMENT, busy, x -> tape(x, 1).turned(true));
    changesNothing("ask of 1 byte", ARGUMENT, busy, x -> tape(x, 1).ask());
    Supplier<LastCatch> eight = () -> { LastCatch x = busy(); for (int i = 4; i < 8; i++) x.tell(0, 0, 1); return x; };
    changesNothing("a 9th fish", STATE, eight, x -> x.tell(0, 0, 1));
    Supplier<LastCatch> twelve = () -> { LastCatch x = sea(""); for (int i = 1; i < 12; i++) sea(x, "ice " + i); x.ice(4); return x; };
    changesNothing("a 13th text", UNSUPPORTED, twelve, x -> tape(x, "ice 77;boat hold 1").waters());

    sentence("a call that throws leaves the TAPE, where it is not used up");
    LastCatch t = tape(busy(), "abc");
    fails("days", ARGUMENT, () -> t.days(0));
    fails("tell", INDEX, () -> t.tell(9, 9, 9));
    fails("log", ELEMENT, () -> t.log(0, 9));
    is("three bytes", t.end(3), true);
    is("not four", t.end(4), false);
    is("nor is fault() another one", t.fault(), -1);

    sentence("looking changes nothing");
    LastCatch seen = busy();
    LastCatch like = busy();
    Callable<?>[] looks = {seen::lost, seen::eddy, seen::without, seen::freshest, seen::dearest, seen::twins, seen::slab, seen::sea, seen::gone,
      () -> seen.where(1, 60), () -> seen.meets(0, 3), () -> seen.haul(1, 5), () -> seen.first(1, 5), () -> seen.whose(-1), () -> seen.parted(99), () -> seen.fewest(4),
      () -> seen.turned(true), seen::ask, () -> seen.sale(-1), () -> seen.order(-1), () -> seen.chase(20, 12), () -> seen.pairs(-1), () -> seen.rests(0, 0), () -> seen.odds(4),
      () -> seen.kind(0), () -> seen.spoils(60), () -> seen.trial(60, true), () -> seen.span(60, true), () -> seen.led(0, true), () -> seen.log(0, 0), () -> seen.fish(3, 8), () -> seen.buyer(0, 4)};
    for (Callable<?> l : looks) {
      try { l.call(); } catch (Exception e) { wrong++; System.out.println(about + ": " + e); }
    }
    checks++;
    if (!look(seen).equals(look(like))) { wrong++; System.out.println(about + ": " + look(seen) + ", due is " + look(like)); }
    seen.image();
    is("an image too", seen.count(11), like.count(11));
  }
}
