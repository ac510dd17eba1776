import java.util.Arrays;

/** For each promise of the document: ordinary inputs, the edges that it names, and wrong inputs. */
public final class PromiseTests extends Checks {
  public static void main(String[] args) throws Exception {
    for (int promise = 1; promise <= 55; promise++) {
      int before = checks;
      about = "promise " + promise;
      PromiseTests.class.getDeclaredMethod("promise" + promise).invoke(null);
      if (checks == before) { wrong++; System.out.println("promise " + promise + " has no test"); }
    }
    System.out.println(checks + " checks, " + wrong + " wrong");
    if (wrong != 0) System.exit(1);
  }

  // ---- the promises

  static void promise1() {
    LastCatch x = new LastCatch();
    int[] counts = {0, 0, 0, 0, 0, -1, 10, 0, 0, 0, 0, 0};
    for (int i = 0; i < counts.length; i++) is("count(" + i + ")", x.count(i), counts[i]);
    for (int c = 0; c < 25; c++) is("current of " + c, x.cell(c, 0), 4);
    is("seed", x.seed(7), 1);
    is("sea", x.sea() + x.slab() + x.gone(), 0);
    is("fault", x.fault(), -1);
    is("NONE", LastCatch.NONE, -1);
  }

  static void promise2() {
    LastCatch x = new LastCatch();
    is("feed", x.feed(0x69636520, 0x37202020, 0x20202020, 0x20202020, 0x20202020), 20);
    is("waters", x.waters(), 1);
    is("ice by bytes, the highest first", x.count(6), 7);
    for (int i = 1; i <= 20; i++) is("feed " + i, x.feed(i, 0, -1, 0, 0), 20 * i);
    is("feed above 400", x.feed(0, 0, 0, 0, 0), -1);
    is("none came", x.end(400), true);
    is("end", x.end(381), true);
    is("feed 381", x.feed(0, 0, 0, 0, 0), -1);
    is("end", x.end(380), true);
    is("feed 380", x.feed(0, 0, 0, 0, 0), 400);
    LastCatch y = new LastCatch();
    y.feed(0x69636520, 0x20202020, 0x20202020, 0x20202020, 0x20202020);
    y.feed(0x38202020, 0x20202020, 0x20202020, 0x20202020, 0x20202020);
    y.waters();
    is("bytes come behind", y.count(6), 8);
  }

  static void promise3() {
    LastCatch x = new LastCatch();
    is("end(0) of none", x.end(0), true);
    is("end(1) of none", x.end(1), false);
    x.feed(0x69636520, 0x31323334, 0, 0, 0);
    is("end(-1)", x.end(-1), false);
    is("end(21)", x.end(21), false);
    is("end(20)", x.end(20), true);
    is("end(6)", x.end(6), true);
    is("end(7)", x.end(7), false);
    x.waters();
    is("ice", x.count(6), 12);
    is("used up", x.end(1), false);
  }

  static void promise4() {
    LastCatch x = sea("current 3 left right up down still;fish saying at 24 size 9 fresh 0;boat hold 9 at 24 heads 0");
    is("current", x.cell(3, 0) * 10000 + x.cell(4, 0) * 1000 + x.cell(5, 0) * 100 + x.cell(6, 0) * 10 + x.cell(7, 0), 1234);
    is("current ahead", x.cell(2, 0), 4);
    is("kind, size, fresh, cell", x.fish(0, 0) * 10000 + x.fish(0, 1) * 1000 + x.fish(0, 2) * 100 + x.fish(0, 4), 39024);
    is("boat at, heads, hold", x.boat(0, 0) * 1000 + x.boat(0, 1) * 10 + x.boat(0, 2), 24009);
    is("second text", tape(x, "buyer god money 999 least 99 keen 100;dead saying tell breath 99; ice 0 ;day999 ").waters(), 2);
    is("buyer", x.buyer(0, 0) * 1000000 + x.buyer(0, 1) * 1000 + x.buyer(0, 2), 1999099);
    is("keen", x.buyer(0, 3), 100);
    is("dead", x.dead(0, 0) * 100 + x.dead(0, 1), 999);
    is("ice", x.count(6), 0);
    is("day", x.count(8), 999);
    is("blanks alone", tape(x, "   ").waters(), 3);
    is("nothing", tape(x, "").waters(), 4);
    is("no blanks at all", tape(x, "fish god at0size3fresh007").waters(), 5);
    is("fresh", x.fish(1, 2), 7);
    is("defaults", sea("boat hold 1").boat(0, 1), -1);
    is("defaults", sea("fish god at 1 size 1").fish(0, 2), 90);
    is("defaults", sea("buyer god money 5").buyer(0, 3), 50);
    is("14 lines", tape(x, times(14, "day 1", ";")).waters(), 6);
    for (int i = 7; i <= 12; i++) is("text " + i, tape(x, "ice 1").waters(), i);
    fails("a 13th text", UNSUPPORTED, () -> tape(x, "ice 9").waters());
    is("nothing stays of it", x.count(6), 1);
    is("it was read", x.fault(), -1);
    is("used up", x.end(1), false);
    fails("a wrong 13th text", ARGUMENT, () -> tape(x, "ice").waters());
    is("its fault", x.fault(), 3);
    is("texts", x.count(4), 12);
    LastCatch y = sea("fish god at 1 size 1");
    fails("wrong behind a right line", ARGUMENT, () -> tape(y, "current 1 left;fish god at 2 size 2;boat hold 2;ice 3;day 4;buyer god money 1;dead god breath 1;x").waters());
    is("of a wrong text nothing stays", y.count(0) * 100000 + y.count(1) * 10000 + y.count(2) * 1000 + y.count(3) * 100 + y.count(6) + y.count(8), 100010);
    is("nor a current", y.cell(1, 0), 4);
    is("used up too", y.end(1), false);
    is("day 0", sea("day 7", "day 0").count(8), 0);
    is("heads 24", sea("boat hold 1 heads 24").boat(0, 1), 24);
    is("least 0", sea("buyer god money 0 least 0").buyer(0, 2), 0);
    is("least untold", sea("buyer god money 0").buyer(0, 2), 0);
    is("at untold", sea("boat hold 1").boat(0, 0), 0);
  }

  static void promise5() {
    LastCatch x = sea("fish god at 0 size 7 fresh 50");
    is("law", tape(x, "turn 3;keep 2;dear 9 ; dear 1 if fish<1").law(), 4);
    is("turns", x.fish(0, 6), 6);
    is("price", x.fish(0, 7), 14 + 5 + 10);
    is("in place of the one before", tape(x, "keep 99").law(), 1);
    is("0 at least", x.fish(0, 6), 0);
    is("empty", tape(x, "").law(), 0);
    is("lines", x.count(5), 0);
    is("blanks", tape(x, "  ").law(), 0);
    is("12 lines", tape(x, times(12, "dear 1", ";")).law(), 12);
    is("price", x.fish(0, 7), 31);
    String[] holds = {"big", "not not big", "slab or big", "big and iced", "iced", "not slab", "(big)", "size > 6", "size<8", "fresh > 49", "fresh+1>50",
      "not(slab or not big)", "slab and slab or big", "big or slab and slab", "kind + 1 + 1 > 2", "0 < ice", "ice < 11", "1 > lying", "fish < 1", "day < 1",
      "not (not (not slab or slab)) and 999 > 998", "not not not not not not big", "((((((big))))))", "not(not(not slab))and(big)", "not slab and big"};
    for (String c : holds) { law(x, "dear 50 if " + c); is(c, x.fish(0, 7), 69); }
    String[] fail = {"slab", "not big", "big and slab", "not iced", "size > 7", "size < 7", "fresh > 50", "lying > 0", "fish > 0", "day > 0", "ice > 10", "kind < 1", "not big or slab",
      "not (big or slab)", "slab and (slab or big)", "1 < 1"};
    for (String c : fail) { law(x, "dear 50 if " + c); is(c, x.fish(0, 7), 19); }
    LastCatch y = sea("day 123;ice 0;fish horse at 0 size 6;boat hold 3");
    law(y, "dear 10 if day < 24 and day > 22;dear 20 if not iced;dear 30 if kind > 1 and kind < 3;dear 40 if big");
    is("day modulo 100, no ice, kind, not big", y.fish(0, 7), 12 + 9 + 60);
    y.days(1);
    law(y, "dear 10 if slab;dear 20 if lying > 0 and lying < 2;turn 7 if slab;keep 3 if not slab");
    is("on the slab", y.fish(0, 7), 12 + 8 + 30);
    is("turns there", y.fish(0, 6), 12);
    fails("wrong", ARGUMENT, () -> tape(y, "dear 1 if").law());
    is("the law stays", y.fish(0, 7), 50);
    is("lines stay", y.count(5), 4);
    is("used up", y.end(1), false);
    LastCatch z = sea("fish god at 0 size 1 fresh 0");
    String[] sums = {"1 + 1 + 1 > 2", "2 < 1 + 1 + 1", "5 > 1 + 1", "3 + 2 + 1 > 5", "1 + 2 < 4", "999 < 999 + 1", "day+ice+kind > 10"};
    for (String c : sums) { law(z, "dear 5 if " + c); is(c, z.fish(0, 7), 7); }
    String[] less = {"1 + 1 + 1 < 3", "3 > 1 + 1 + 1", "5 < 1 + 1", "1 + 1 > 5", "5 > 1 + 2 + 3", "day+ice+kind > 11"};
    for (String c : less) { law(z, "dear 5 if " + c); is(c, z.fish(0, 7), 2); }
    is("keep 0", tape(z, "keep 0;dear 99").law(), 2);
  }

  static void promise6() {
    wrongSea("day 1;", 6);
    wrongSea("day 1; ;", 7);
    wrongSea(" ; day 1", 1);
    wrongSea("day 0001", 4);
    wrongSea("fish tell at 1 size 1 fresh 100", 28);
    wrongSea("fish tell at 1 size 0", 20);
    wrongSea("fish tell at 1", 14);
    wrongSea("fish tell at 1  ", 16);
    wrongSea("fish tell in 1", 10);
    wrongSea("fishtell at 1", 0);
    wrongSea("Fish tell at 1", 0);
    wrongSea("fish tell at 1 size 1 fresh 1 fresh 1", 30);
    wrongSea("boat hold 1 heads 1 at 1", 20);
    wrongSea("boat hold 1 heads 25", 18);
    wrongSea("buyer god money 1 keen 101", 23);
    wrongSea("buyer god money 1 keen 1 least 1", 25);
    wrongSea("dead god tell god breath 1", 14);
    wrongSea("dead god tell horse saying god breath 1", 27);
    wrongSea("dead god", 8);
    wrongSea("dead god 1", 9);
    wrongSea("current 24 up down", 14);
    wrongSea("current 23 up down left", 19);
    wrongSea("current 3 up 4", 13);
    wrongSea("current up", 8);
    wrongSea("ice 1 2", 6);
    wrongSea("ice\t1", 3);
    wrongSea(times(14, "ice 1", ";") + ";", 84);
    wrongSea(times(14, "ice 1", ";") + ";  ice 1", 86);
    wrongSea(times(9, "fish god at 1 size 1", ";"), 168);
    wrongSea(times(4, "boat hold 1", ";"), 36);
    wrongSea(times(6, "buyer god money 1", ";"), 90);
    wrongSea(times(7, "dead god breath 1", ";"), 108);
    LastCatch x = sea(times(8, "fish god at 1 size 1", ";"));
    fails("a 9th fish in a later text", ARGUMENT, () -> tape(x, "ice 1; fish cod").waters());
    is("fault", x.fault(), 7);
    tape(x, "").waters();
    is("none of the latest text", x.fault(), -1);
    wrongLaw("keep 1;", 7);
    wrongLaw("keep", 4);
    wrongLaw("hold 1", 0);
    wrongLaw("keep 100", 5);
    wrongLaw("keep 1 when", 7);
    wrongLaw("keep 1 if", 9);
    wrongLaw("keep 1 if iced and", 18);
    wrongLaw("keep 1 if iced iced", 15);
    wrongLaw("keep 1 if ice < ", 16);
    wrongLaw("keep 1 if ice iced", 14);
    wrongLaw("keep 1 if iced < 3", 15);
    wrongLaw("keep 1 if 1 < 2 < 3", 16);
    wrongLaw("keep 1 if 1000 < 2", 10);
    wrongLaw("keep 1 if 1 + < 2", 14);
    wrongLaw("keep 1 if (ice + 1) < 2", 18);
    wrongLaw("keep 1 if (iced", 15);
    wrongLaw("keep 1 if (iced;", 15);
    wrongLaw("keep 1 if iced)", 14);
    wrongLaw("keep 1 if ()", 11);
    wrongLaw("keep 1 if not", 13);
    wrongLaw("keep 1 if not not not not not not not big", 34);
    wrongLaw("keep 1 if (((((((big)))))))", 16);
    wrongLaw("keep 1 if not(not(not(not big)))", 22);
    wrongLaw("keep 1 if not(not(not big))and(not(not(not(not big", 42);
    wrongLaw(times(12, "keep 1", ";") + ";keep 1", 84);
    wrongLaw(times(12, "keep 1", ";") + ";", 84);
    LastCatch y = new LastCatch();
    fails("turned is no text", ARGUMENT, () -> tape(y, 1).turned(false));
    is("fault stays", y.fault(), -1);
    wrongSea("bay 1", 0);
    wrongSea("dax 1", 0);
    wrongSea("days 1", 0);
    wrongSea("current 25 left", 8);
    wrongSea("current 3", 9);
    wrongSea("current 3 north", 10);
    wrongSea("fish", 4);
    wrongSea("fish cod at 1 size 1", 5);
    wrongSea("fish god at 25 size 1", 12);
    wrongSea("fish god at 1 size 10", 19);
    wrongSea("boat hold 10", 10);
    wrongSea("boat hold 0", 10);
    wrongSea("boat hold 1 at 25", 15);
    wrongSea("buyer god money 1000", 16);
    wrongSea("buyer god money 1 least 100", 24);
    wrongSea("dead god breath 100", 16);
    wrongSea("ice 1000", 4);
    wrongSea("\u00ff", 0);
    wrongLaw("keep 1 if kinds > 1", 10);
  }

  static void promise7() {
    LastCatch x = sea("current 0 right right down;current 5 left up;current 10 down;current 15 up;fish god at 1 size 1;fish god at 7 size 1;fish god at 1 size 1");
    is("current", x.cell(2, 0), 3);
    is("drift", x.cell(2, 1), 7);
    is("drift where the sea ends", x.cell(5, 1), 5);
    is("drift up", x.cell(6, 1), 1);
    is("drift of a still one", x.cell(24, 1), 24);
    is("fish", x.cell(1, 2), 5);
    is("fish", x.cell(7, 2), 2);
    is("fish", x.cell(0, 2), 0);
    is("round of a still one", x.cell(7, 3), 1);
    is("round of one that leads away", x.cell(0, 3), 0);
    is("round of two", x.cell(10, 3), 1);
    is("round of two", x.cell(15, 3), 1);
    x.current(1, 3);
    x.current(6, 0);
    x.current(5, 2);
    is("round of four", x.cell(0, 3) + x.cell(1, 3) + x.cell(6, 3) + x.cell(5, 3), 4);
    is("the last", x.cell(24, 0), 4);
    for (int c : new int[] {-1, 25, Integer.MIN_VALUE, Integer.MAX_VALUE}) fails("cell " + c, INDEX, () -> x.cell(c, 9));
    for (int w : new int[] {-1, 4}) fails("what " + w, ELEMENT, () -> x.cell(0, w));
    LastCatch y = new LastCatch();
    for (int c = 0; c < 25; c++) for (int way = 0; way < 4; way++) {
      y.current(c, way);
      int nx = c % 5 + (way == 0 ? -1 : way == 1 ? 1 : 0), ny = c / 5 + (way == 2 ? -1 : way == 3 ? 1 : 0);
      is("drift of " + c + " by " + way, y.cell(c, 1), nx < 0 || nx > 4 || ny < 0 || ny > 4 ? c : 5 * ny + nx);
      y.current(c, 4);
    }
  }

  static void promise8() {
    LastCatch x = sea("current 6 left up;fish god at 6 size 2 fresh 39;fish tell at 9 size 3;fish horse at 24 size 4;boat hold 1;boat hold 1 at 8 heads 9;dead god tell breath 2;dead god breath 1;dead tell breath 3");
    is("caught in 3 days? its boat stays at the harbour", x.fish(0, 8), -1);
    is("caught tomorrow", x.fish(1, 8), 1);
    is("never", x.fish(2, 8), -1);
    is("maybe", x.fish(0, 9) * 100 + x.fish(1, 9) * 10 + x.fish(2, 9), 140);
    is("turns", x.fish(0, 6), 5);
    is("price", x.fish(0, 7), 4 + 3);
    x.current(5, 2);
    is("caught, 6 5 0", x.fish(0, 8), 2);
    x.days(1);
    is("in a boat", x.fish(1, 3), 1);
    is("its cell", x.fish(1, 4), 9);
    is("its boat", x.fish(1, 5), 1);
    is("caught already", x.fish(1, 8), 0);
    is("it turned", x.fish(1, 2), 85);
    is("in the sea", x.fish(0, 3) * 100 + x.fish(0, 4), 5);
    is("no boat", x.fish(0, 5), -1);
    is("does not turn in the sea", x.fish(0, 2), 39);
    x.days(1);
    is("on the slab", x.fish(0, 3), 2);
    is("no cell", x.fish(0, 4), -1);
    is("no boat", x.fish(0, 5), -1);
    is("fresh", x.fish(0, 2), 34);
    is("kind, size", x.fish(0, 0) * 10 + x.fish(0, 1), 12);
    x.days(7);
    is("turned", x.fish(0, 3), 3);
    is("fresh 0", x.fish(0, 2), 0);
    is("cell, boat, caught of one that is gone", x.fish(0, 4) * 100 + x.fish(0, 5) * 10 + x.fish(0, 8), -110);
    fails("fish 3", INDEX, () -> x.fish(3, 0));
    fails("fish -1", INDEX, () -> x.fish(-1, 99));
    fails("what 10", ELEMENT, () -> x.fish(0, 10));
    fails("what -1", ELEMENT, () -> x.fish(0, -1));
    LastCatch y = sea("boat hold 1 at 12;fish god at 12 size 1 fresh 59;fish god at 12 size 1");
    law(y, "keep 4");
    is("room when the other is turned, in 60 days", y.fish(1, 8), 60);
    is("not in 61", law(sea("boat hold 1 at 12;fish god at 12 size 1 fresh 60;fish god at 12 size 1"), "keep 4").fish(1, 8), -1);
    LastCatch z = sea("boat hold 9;boat hold 1 at 12;fish god at 0 size 1;fish tell at 12 size 1 fresh 10;fish tell at 12 size 1;buyer god money 999 keen 100");
    law(z, "keep 5 if lying < 1");
    is("no buyer comes", z.fish(2, 8), 3);
    LastCatch w = sea("boat hold 1 at 12;fish god at 12 size 1;dead god breath 1;dead god breath 1;dead tell breath 1;dead god breath 1");
    w.days(1);
    is("its boat's cell", w.fish(0, 4), 12);
    is("boat 0", w.fish(0, 5), 0);
    is("maybe many", w.fish(0, 9), 11);
    LastCatch v = lying("fish god at 0 size 1", "buyer god money 99");
    v.sell(0, 0);
    is("sold: no cell, no boat", v.fish(0, 4) * 10 + v.fish(0, 5), -11);
  }

  static void promise9() {
    LastCatch x = sea("boat hold 3 at 12 heads 10;fish god at 12 size 1;fish god at 12 size 1;fish god at 11 size 1");
    is("cell, heads, hold, fish", x.boat(0, 0) * 1000 + x.boat(0, 1) * 10 + x.boat(0, 2), 12103);
    is("none in it", x.boat(0, 3), 0);
    x.days(1);
    is("cell", x.boat(0, 0), 11);
    is("fish in it", x.boat(0, 3), 4);
    x.days(1);
    is("heads to none there", x.boat(0, 1), -1);
    is("cell", x.boat(0, 0), 10);
    fails("boat 1", INDEX, () -> x.boat(1, 0));
    fails("boat -1", INDEX, () -> x.boat(-1, 0));
    fails("what", ELEMENT, () -> x.boat(0, 4));
    fails("what", ELEMENT, () -> x.boat(0, -1));
  }

  static void promise10() {
    LastCatch x = lying("fish god at 0 size 1 fresh 50;fish god at 0 size 2 fresh 60;fish god at 0 size 3 fresh 60;fish tell at 0 size 1 fresh 99",
      "buyer god money 99 least 55 keen 7;buyer god money 9;buyer tell money 10;buyer god money 0;buyer god money 500 least 56");
    is("want, money, least, keen", x.buyer(0, 0) * 1000000 + x.buyer(0, 1) * 10000 + x.buyer(0, 2) * 100 + x.buyer(0, 3), 1995507);
    is("choice: the freshest, the least of two", x.buyer(0, 4), 1);
    is("choice by price 9", x.buyer(1, 4), 1);
    is("choice by price 11", x.buyer(2, 4), -1);
    is("choice without money", x.buyer(3, 4), -1);
    is("choice by least", x.buyer(4, 4), -1);
    is("share", x.buyer(0, 5), 9900 / 618);
    is("share", x.buyer(3, 5), 0);
    is("share of none", sea("buyer god money 0").buyer(0, 5), 0);
    is("share of all", sea("buyer god money 3").buyer(0, 5), 100);
    x.pay(2, 1);
    is("choice at its price", x.buyer(2, 4), 3);
    fails("buyer 5", INDEX, () -> x.buyer(5, 0));
    fails("buyer -1", INDEX, () -> x.buyer(-1, 0));
    fails("what", ELEMENT, () -> x.buyer(0, 6));
    fails("what", ELEMENT, () -> x.buyer(0, -1));
  }

  static void promise11() {
    LastCatch x = sea("dead tell breath 0;dead saying horse breath 99");
    is("said", x.dead(0, 0) * 100 + x.dead(1, 0), 112);
    is("breath", x.dead(0, 1) * 100 + x.dead(1, 1), 99);
    fails("dead 2", INDEX, () -> x.dead(2, 0));
    fails("dead -1", INDEX, () -> x.dead(-1, 5));
    fails("what", ELEMENT, () -> x.dead(0, 2));
    fails("what", ELEMENT, () -> x.dead(0, -1));
  }

  static void promise12() {
    // the draws of seed 1 modulo 100: 38, 58, 13, 15, 51, 27, 10, 19, 12, 86
    LastCatch x = sea("boat hold 2;fish tell at 0 size 3;buyer tell money 40 keen 39");
    is("bought", x.days(1), 1);
    is("till", x.count(7), 6 + 8);
    is("money", x.buyer(0, 1), 26);
    is("gone", x.gone(), 1);
    is("day", x.count(8), 1);
    is("ice", x.count(6), 9);
    log(x, 0, 0, 0, 2, 0, 85);
    log(x, 1, 0, 0, 0, 0, 90);
    LastCatch y = sea("boat hold 2;fish tell at 0 size 3;buyer tell money 40 keen 38");
    is("not moved by 38", y.days(1), 0);
    is("seed is drawn always", y.seed(1), 1103527590);
    LastCatch z = sea("boat hold 2;fish tell at 0 size 3;fish tell at 0 size 3;fish tell at 0 size 9;buyer god money 40 keen 100;buyer tell money 40 keen 59;buyer tell money 15 keen 14;buyer tell money 9 keen 100");
    is("one has what he can pay", z.days(1), 2);
    is("by numbers", z.buyer(1, 1) * 100 + z.buyer(2, 1), 2601);
    is("hold 2 a day", z.sea(), 4);
    LastCatch s = sea("boat hold 1 at 12 heads 3;boat hold 9 at 4 heads 4;fish god at 7 size 1;fish god at 12 size 1");
    s.days(1);
    is("along x", s.boat(0, 0), 13);
    is("there already", s.boat(1, 0) * 10 - s.boat(1, 1), 41);
    is("sea", s.sea(), 3);
    s.days(1);
    is("then along y", s.boat(0, 0), 8);
    s.days(1);
    is("there", s.boat(0, 0) * 10 - s.boat(0, 1), 31);
    s.days(1);
    is("stays", s.boat(0, 0), 3);
    LastCatch d = sea("current 6 left;current 5 up;fish god at 6 size 1 fresh 20;boat hold 1");
    d.days(1);
    is("drifted", d.fish(0, 4), 5);
    is("in the sea it does not turn", d.fish(0, 2), 20);
    d.days(4);
    is("5 a day on the slab", d.fish(0, 2), 0);
    is("turned", d.fish(0, 3), 3);
    log(d, 0, 4, 0, 1, -1, 0);
    log(d, 1, 1, 0, 0, 0, 20);
    LastCatch w = law(sea("boat hold 9;fish god at 0 size 1 fresh 10;fish god at 0 size 1 fresh 10;fish god at 0 size 1 fresh 10;ice 1"), "turn 10 if lying > 2;keep 4 if iced");
    w.days(1);
    is("all turn by what lay there ahead", w.gone(), 7);
    LastCatch v = law(sea("boat hold 9;fish god at 0 size 1 fresh 10;ice 1"), "keep 4 if iced");
    v.days(1);
    is("ice as it is ahead of the turning", v.fish(0, 2), 9);
    v.days(1);
    is("no ice left", v.fish(0, 2), 4);
    is("ice 0 at least", v.count(6), 0);
    LastCatch e = law(sea("boat hold 9;fish god at 0 size 1 fresh 20;ice 1;buyer god money 20 keen 100"), "dear 9 if iced;dear 4 if lying > 0");
    e.days(1);
    is("price behind the ice's melting", e.count(7), 2 + 1 + 4);
    LastCatch l = sea("day 999;boat hold 1");
    l.days(60);
    is("60 days", l.count(8), 1059);
    for (int i = 0; i < 150; i++) l.days(60);
    is("9999 at most", l.count(8), 9999);
    LastCatch h = sea("boat hold 1 at 0;boat hold 1 at 0;fish god at 0 size 1;fish god at 0 size 2;fish god at 0 size 3");
    h.days(1);
    is("each boat has one", h.slab(), 3);
    h.days(1);
    is("unladen, so there is room", h.slab(), 7);
    LastCatch f = sea("boat hold 1 at 6;fish god at 6 size 1;fish god at 6 size 2");
    f.days(2);
    is("full", f.boat(0, 3) * 10 + f.sea(), 12);
    for (int n : new int[] {0, -1, 61, Integer.MAX_VALUE}) fails("days " + n, ARGUMENT, () -> x.days(n));
    is("nothing happened", x.count(8), 1);
    LastCatch u = sea("boat hold 1 at 20 heads 24;boat hold 1 at 24 heads 20;boat hold 1 at 4 heads 24");
    u.days(1);
    is("right, left, down", u.boat(0, 0) * 10000 + u.boat(1, 0) * 100 + u.boat(2, 0), 212309);
    u.heads(2, 4);
    u.days(3);
    is("there and up again", u.boat(0, 0) * 10000 + u.boat(1, 0) * 100 + u.boat(2, 0), 242004);
  }

  static void promise13() {
    LastCatch x = sea("boat hold 1");
    is("none", x.heads(0, 24), -1);
    is("24", x.heads(0, -1), 24);
    is("none", x.heads(0, 0), -1);
    is("heads", x.boat(0, 1), 0);
    x.days(1);
    is("there", x.boat(0, 1), -1);
    fails("boat", INDEX, () -> x.heads(1, 0));
    fails("boat", INDEX, () -> x.heads(-1, 0));
    fails("cell", INDEX, () -> x.heads(0, 25));
    fails("cell", INDEX, () -> x.heads(0, -2));
    is("acts", x.count(11), 4);
  }

  static void promise14() {
    LastCatch x = new LastCatch();
    is("ice", x.ice(5), 15);
    is("ice", x.ice(984), 999);
    is("ice", x.ice(1), 999);
    is("acts", x.count(11), 3);
    for (int n : new int[] {0, -1, 1000}) fails("ice " + n, ARGUMENT, () -> x.ice(n));
    is("count", x.count(6), 999);
  }

  static void promise15() {
    LastCatch x = lying("fish god at 0 size 1 fresh 50;fish god at 3 size 1");
    is("sponge", x.sponge(0, 7), 52);
    is("sponge", x.sponge(0, 99), 99);
    is("fresh", x.fish(0, 2), 99);
    fails("fish", INDEX, () -> x.sponge(2, 0));
    fails("fish", INDEX, () -> x.sponge(-1, 1));
    fails("n ahead of the place", ARGUMENT, () -> x.sponge(1, 0));
    fails("n", ARGUMENT, () -> x.sponge(0, 100));
    fails("in the sea", STATE, () -> x.sponge(1, 1));
    is("acts", x.count(11), 3);
  }

  static void promise16() {
    LastCatch x = sea("buyer god money 5");
    is("pay", x.pay(0, 7), 12);
    is("pay", x.pay(0, 999), 999);
    is("money", x.buyer(0, 1), 999);
    fails("buyer", INDEX, () -> x.pay(1, 0));
    fails("n", ARGUMENT, () -> x.pay(0, 0));
    fails("n", ARGUMENT, () -> x.pay(0, 1000));
  }

  static void promise17() {
    LastCatch x = new LastCatch();
    is("tell", x.tell(3, 24, 9), 0);
    is("told", x.fish(0, 0) * 100000 + x.fish(0, 1) * 10000 + x.fish(0, 2) * 100 + x.fish(0, 4), 399024);
    is("in the sea", x.sea(), 1);
    fails("kind", INDEX, () -> x.tell(4, 0, 0));
    fails("kind", INDEX, () -> x.tell(-1, 0, 1));
    fails("cell", INDEX, () -> x.tell(0, 25, 0));
    fails("cell", INDEX, () -> x.tell(0, -1, 1));
    fails("size", ARGUMENT, () -> x.tell(0, 0, 0));
    fails("size", ARGUMENT, () -> x.tell(0, 0, 10));
    for (int i = 1; i < 8; i++) is("tell", x.tell(0, 0, 1), i);
    fails("size ahead of 8", ARGUMENT, () -> x.tell(0, 0, 10));
    fails("8", STATE, () -> x.tell(0, 0, 1));
  }

  static void promise18() {
    LastCatch x = sea("boat hold 9;boat hold 1 at 7;fish god at 0 size 1 fresh 20;fish god at 7 size 1;fish god at 8 size 1");
    x.days(1);
    is("from the slab", x.release(0), 0);
    is("in the sea", x.fish(0, 3) * 10 + x.fish(0, 4), 0);
    is("as fresh", x.fish(0, 2), 15);
    is("from a boat", x.release(1), 7);
    is("cell", x.fish(1, 4), 7);
    is("no boat", x.fish(1, 5), -1);
    is("room", x.boat(1, 3), 0);
    fails("in the sea", STATE, () -> x.release(2));
    fails("fish", INDEX, () -> x.release(3));
    x.days(10);
    is("gone", x.fish(0, 3), 3);
    fails("gone", STATE, () -> x.release(0));
  }

  static void promise19() {
    LastCatch x = new LastCatch();
    is("was", x.current(24, 0), 4);
    is("was", x.current(24, 4), 0);
    is("now", x.cell(24, 0), 4);
    fails("cell", INDEX, () -> x.current(25, 9));
    fails("cell", INDEX, () -> x.current(-1, 0));
    fails("n", ARGUMENT, () -> x.current(0, 5));
    fails("n", ARGUMENT, () -> x.current(0, -1));
    is("acts", x.count(11), 2);
  }

  static void promise20() {
    LastCatch x = lying("fish god at 0 size 4 fresh 45;fish god at 0 size 5 fresh 99;fish god at 1 size 1", "buyer tell money 13 least 99;buyer god money 999");
    is("whatever he wants", x.sell(0, 0), 12);
    is("till", x.count(7), 12);
    is("money", x.buyer(0, 1), 1);
    is("gone", x.fish(0, 3), 3);
    is("fresh stays", x.fish(0, 2), 40);
    log(x, 0, 1, 0, 3, 0, 40);
    fails("price above money", STATE, () -> x.sell(1, 0));
    fails("in the sea", STATE, () -> x.sell(2, 1));
    fails("gone", STATE, () -> x.sell(0, 1));
    fails("fish", INDEX, () -> x.sell(3, 0));
    fails("buyer", INDEX, () -> x.sell(2, 2));
    fails("buyer", INDEX, () -> x.sell(2, -1));
    x.pay(0, 18);
    is("price at his money", x.sell(1, 0), 19);
    is("no money left", x.buyer(0, 1), 0);
  }

  static void promise21() {
    LastCatch x = sea("current 2 left left;current 7 up;fish god at 7 size 1 fresh 20;fish god at 24 size 1;boat hold 1 at 1");
    is("now", x.where(0, 0), 7);
    is("in a day", x.where(0, 1), 2);
    is("caught then", x.where(0, 2), -1);
    is("stays", x.where(1, 60), 24);
    is("nothing stays of it", x.count(8), 0);
    fails("fish", INDEX, () -> x.where(2, 61));
    fails("n", ARGUMENT, () -> x.where(0, -1));
    fails("n", ARGUMENT, () -> x.where(0, 61));
    LastCatch y = sea("boat hold 9;boat hold 1 at 12;fish god at 0 size 1;fish tell at 12 size 1 fresh 10;fish tell at 12 size 1;buyer god money 999 keen 100");
    law(y, "keep 5 if lying < 1");
    is("no buyer comes", y.where(2, 2) * 100 + y.where(2, 3), 1199);
  }

  static void promise22() {
    LastCatch x = sea("current 22 left left left;fish god at 24 size 1;fish god at 0 size 1;boat hold 1 at 20;boat hold 1 at 0");
    is("meets on the way", x.meets(0, 0), 2);
    is("there already", x.meets(1, 1), 0);
    is("from far", x.meets(1, 0), 5);
    is("up", x.meets(0, 1), 4);
    x.days(1);
    is("not in the sea", x.meets(1, 1), -1);
    fails("boat", INDEX, () -> x.meets(2, 0));
    fails("fish", INDEX, () -> x.meets(0, 2));
    LastCatch y = sea("boat hold 1 at 12");
    for (int c = 0; c < 25; c++) {
      LastCatch z = sea("boat hold 1 at 12;boat hold 1 at 8;fish god at " + c + " size 1");
      is("to " + c, z.meets(0, 0), Math.abs(c % 5 - 2) + Math.abs(c / 5 - 2));
      is("from 8 to " + c, z.meets(1, 0), Math.abs(c % 5 - 3) + Math.abs(c / 5 - 1));
    }
    fails("no fish", INDEX, () -> y.meets(0, 0));
  }

  static void promise23() {
    LastCatch x = sea("fish god at 24 size 1;fish god at 0 size 1");
    is("without a boat", x.lost(), 3);
    sea(x, "boat hold 1");
    is("with one", x.lost(), 0);
    LastCatch y = sea("fish god at 1 size 1");
    y.tell(0, 0, 1);
    is("told ones too", y.lost(), 3);
  }

  static void promise24() {
    LastCatch x = sea("fish god at 1 size 4;fish god at 5 size 3;fish god at 6 size 2;fish god at 2 size 9;boat hold 2;boat hold 3");
    is("0", x.haul(0, 0), 0);
    is("1", x.haul(0, 1), 4);
    is("2: 1 and 2", x.haul(0, 2), 13);
    is("hold 2", x.haul(0, 3), 13);
    is("1, 2 and back", x.haul(1, 3), 13);
    is("5, back, 1, 2", x.haul(1, 4), 16);
    is("5", x.haul(1, 5), 16);
    LastCatch y = sea("current 0 right right right;fish god at 0 size 2;fish god at 1 size 5;fish tell at 1 size 3;boat hold 1 at 2");
    is("caught as they drift by numbers", y.haul(0, 1), 5);
    LastCatch z = sea("fish god at 12 size 2;fish god at 12 size 1;fish god at 13 size 9;boat hold 2 at 12;fish tell at 10 size 1");
    is("it must catch what is there", z.haul(0, 2), 11);
    is("first goes away", z.haul(0, 3), 11);
    z.days(1);
    is("full", z.haul(0, 5), 0);
    fails("boat", INDEX, () -> x.haul(2, 9));
    fails("n", ARGUMENT, () -> x.haul(0, 6));
    fails("n", ARGUMENT, () -> x.haul(0, -1));
    LastCatch w = sea("fish god at 13 size 2;fish god at 13 size 1;fish god at 13 size 9;boat hold 2 at 12");
    is("two at once, by numbers", w.haul(0, 1), 3);
    LastCatch v = sea("current 24 up;current 19 up;current 14 up;current 9 left;fish god at 24 size 5;boat hold 1 at 4");
    is("it drifts 24 19 14 9 8 8", v.haul(0, 2) * 100 + v.haul(0, 1), 500);
    is("from far", sea("current 20 right right right right;current 24 up;current 19 up;fish god at 20 size 5;boat hold 1").haul(0, 4), 0);
    is("by a day", sea("current 20 right right right right;current 24 up;fish god at 20 size 5;boat hold 1 at 9").haul(0, 3), 0);
    is("in 5 days", sea("current 20 right right right right;current 24 up;fish god at 20 size 5;boat hold 1 at 2;current 19 up;current 14 up").haul(0, 5), 5);
    LastCatch u = sea("fish god at 15 size 5;boat hold 1 at 24");
    is("4 days", u.haul(0, 4), 0);
    is("5 days", u.haul(0, 5), 5);
  }

  static void promise25() {
    LastCatch x = sea("fish god at 1 size 4;fish god at 5 size 4;boat hold 2;boat hold 9 at 24");
    is("none of 0", x.first(0, 0), -1);
    is("right is less than down", x.first(0, 1), 1);
    is("nothing to have: left", x.first(1, 1), 0);
    is("only by right and down", sea("boat hold 1").first(0, 3), 1);
    LastCatch y = sea("fish god at 12 size 4;boat hold 2 at 12");
    is("stays", y.first(0, 1), 4);
    is("goes and comes back", y.first(0, 2), 0);
    LastCatch z = sea("fish god at 17 size 4;boat hold 2 at 12;fish god at 7 size 3");
    is("down", z.first(0, 1), 3);
    is("up first", z.first(0, 3), 2);
    fails("boat", INDEX, () -> x.first(-1, 9));
    fails("n", ARGUMENT, () -> x.first(0, 6));
    fails("n", ARGUMENT, () -> x.first(0, -1));
  }

  static void promise26() {
    LastCatch x = new LastCatch();
    is("all alike", x.eddy(), 0);
    x.current(24, 0);
    is("one comes to 23", x.eddy(), 23);
    x.current(4, 3);
    x.current(9, 3);
    is("9 is passed by two, 14 by three", x.eddy(), 14);
    x.current(14, 2);
    is("9 and 14 go round, the least", x.eddy(), 9);
    is("the second", sea("current 0 right").eddy(), 1);
    is("a round of two counts each once", sea("current 0 right left;current 22 right right").eddy(), 24);
  }

  static void promise27() {
    LastCatch x = sea("fish god at 0 size 3;fish tell at 1 size 2;fish god at 2 size 2;fish horse at 3 size 1;dead tell god breath 4;dead god breath 3;dead saying breath 9");
    is("how many", x.whose(-1), 3);
    is("0 to the first would leave 1 or 2 out", x.whose(0), 1);
    is("1", x.whose(1), 0);
    is("2", x.whose(2), 0);
    is("nobody says horse", x.whose(3), -1);
    LastCatch y = sea("fish god at 0 size 3;fish god at 0 size 3;dead god breath 3;boat hold 1");
    is("the first to the first", y.whose(0) * 10 - y.whose(1), 1);
    y.days(1);
    y.days(17);
    is("gone ones are nobody's", y.gone(), 1);
    is("so the second", y.whose(1), 0);
    is("gone", y.whose(0), -1);
    is("how many", y.whose(-1), 1);
    is("none", new LastCatch().whose(-1), 0);
    fails("fish", INDEX, () -> x.whose(4));
    fails("fish", INDEX, () -> x.whose(-2));
    fails("fish", INDEX, () -> new LastCatch().whose(0));
    LastCatch z = sea(times(8, "fish god at 0 size 5", ";"), times(6, "dead god tell breath 9", ";"));
    is("one each", z.whose(-1), 6);
    is("in their order", z.whose(5) * 10 - z.whose(6), 51);
    LastCatch w = sea("fish god at 0 size 3;dead horse breath 99;dead god breath 99");
    is("put once", w.whose(-1), 1);
    is("not to one who does not say it", w.whose(0), 1);
  }

  static void promise28() {
    LastCatch x = sea("dead god breath 2;dead god breath 3;dead god breath 0");
    int[] ways = {1, 2, 3, 3, 2, 1, 0};
    for (int s = 0; s < ways.length; s++) is("parted " + s, x.parted(s), ways[s]);
    LastCatch y = new LastCatch();
    is("without", y.parted(0) * 10 + y.parted(1), 10);
    is("six of 99", sea(times(6, "dead god breath 99", ";")).parted(99), 91962520);
    fails("s", ARGUMENT, () -> x.parted(-1));
    fails("s", ARGUMENT, () -> x.parted(100));
  }

  static void promise29() {
    LastCatch x = sea("dead god breath 2;dead god breath 3;dead god breath 5;dead god breath 3");
    is("nobody", x.fewest(0), 0);
    is("one, the least", x.fewest(2), 1);
    is("one", x.fewest(3), 2);
    is("one", x.fewest(5), 4);
    is("two, not the nearest", x.fewest(6), 5);
    is("two", x.fewest(7), 5);
    is("three", x.fewest(9), 7);
    is("all", x.fewest(13), 15);
    is("none", x.fewest(14), -1);
    is("without", new LastCatch().fewest(1), -1);
    is("without, of 0", new LastCatch().fewest(0), 0);
    fails("s", ARGUMENT, () -> x.fewest(-1));
    fails("s", ARGUMENT, () -> x.fewest(100));
  }

  static void promise30() {
    LastCatch x = new LastCatch();
    is("none told", x.turned(false), 2000);
    is("none told", x.turned(true), 0);
    is("fresh on day 10", tape(x, 10, 99).turned(false), 100 + 19 * 90);
    is("89 on 10: by 1 since 0, by 2 since 5, by 5 since 8, by 10 since 9", tape(x, 10, 89).turned(false), 4);
    is("the first", tape(x, 10, 89).turned(true), 100);
    is("and 79 on 12", tape(x, 10, 89, 12, 79).turned(true), 508);
    is("and 79 on 12", tape(x, 10, 89, 12, 79).turned(false), 1);
    is("none fits", tape(x, 10, 89, 12, 90).turned(true), -1);
    is("none fits", tape(x, 10, 89, 12, 90).turned(false), 0);
    is("0 at least", tape(x, 99, 0).turned(true), 100);
    is("used up", x.end(1), false);
    byte[] full = new byte[40];
    for (int i = 1; i < 40; i += 2) full[i] = 99;
    is("40 bytes", tape(x, full).turned(false), 2000);
    fails("42 bytes", ARGUMENT, () -> tape(x, new byte[42]).turned(false));
    is("used up", x.end(1), false);
    fails("odd", ARGUMENT, () -> tape(x, 1, 2, 3).turned(false));
    fails("a day of 100", ARGUMENT, () -> tape(x, 100, 2).turned(true));
    fails("a fresh of 100", ARGUMENT, () -> tape(x, 1, 100).turned(true));
    fails("a byte of 255", ARGUMENT, () -> tape(x, 1, 255).turned(true));
  }

  static void promise31() {
    LastCatch x = new LastCatch();
    // 89 on day 10 fits (1, 0), (2, 5), (5, 8), (10, 9): on day 0 all are 99
    is("the first day that tells four apart", tape(x, 10, 89).ask(), 9);
    is("one fits", tape(x, 10, 89, 12, 79).ask(), -1);
    is("none fits", tape(x, 10, 89, 12, 90).ask(), -1);
    is("98 on day 1 and 97 on day 2", tape(x, 1, 98, 2, 97).ask(), -1);
    // by 1 since 8, by 2 since 9: day 9 is told already: 98 against 99
    is("97 on day 10 may be by 1 or by 2", tape(x, 11, 97).ask(), 10);
    is("used up", x.end(1), false);
    fails("odd", ARGUMENT, () -> tape(x, 1).ask());
    fails("42 bytes", ARGUMENT, () -> tape(x, new byte[42]).ask());
    fails("100", ARGUMENT, () -> tape(x, 100, 0).ask());
    is("no day tells any apart", tape(x, 99, 99).ask(), 0);
  }

  static void promise32() {
    // prices: 2 + 8, 4 + 8, 6 + 8
    LastCatch x = lying("fish god at 0 size 1;fish god at 0 size 2;fish god at 0 size 3;fish tell at 0 size 9",
      "buyer god money 99;buyer god money 12;buyer god money 10 least 86;buyer horse money 99");
    is("most", x.sale(-1), 14 + 12);
    is("the dearest", x.sale(0), 2);
    is("what he can pay", x.sale(1), 1);
    is("not fresh enough", x.sale(2), -1);
    is("not his want", x.sale(3), -1);
    LastCatch y = lying("fish god at 0 size 1;fish god at 0 size 1", "buyer god money 99;buyer god money 99;buyer god money 99");
    is("most", y.sale(-1), 20);
    is("none is the least", y.sale(0), -1);
    is("then the fish", y.sale(1) * 10 + y.sale(2), 1);
    is("nothing", sea("buyer god money 9").sale(-1), 0);
    is("without buyers", lying("fish god at 0 size 1").sale(-1), 0);
    fails("buyer", INDEX, () -> x.sale(4));
    fails("buyer", INDEX, () -> x.sale(-2));
    LastCatch z = lying("fish god at 0 size 1;fish god at 0 size 2;fish god at 0 size 3");
    is("order", z.order(-1), 6);
    is("no buyers behind an order", z.sale(-1), 0);
    sea(z, "buyer god money 99;buyer god money 99;buyer god money 99");
    is("all", z.sale(-1), 36);
    is("each another one", z.sale(0) * 100 + z.sale(1) * 10 + z.sale(2), 12);
    LastCatch w = lying("fish god at 0 size 2;fish god at 0 size 1", "buyer god money 99;buyer god money 11");
    is("the second can't pay the first", w.sale(0) * 10 + w.sale(1), 1);
    LastCatch v = lying("fish god at 0 size 1;fish god at 0 size 2", "buyer god money 99;buyer god money 11");
    is("so the first leaves it", v.sale(0) * 10 + v.sale(1), 10);
    LastCatch u = sea("boat hold 9;" + times(8, "fish god at 0 size 1", ";"), times(5, "buyer god money 99 keen 0", ";"));
    u.days(1);
    is("five of eight", u.sale(-1), 50);
    is("in their order", u.sale(0) * 10000 + u.sale(1) * 1000 + u.sale(2) * 100 + u.sale(3) * 10 + u.sale(4), 1234);
    LastCatch t = lying("fish god at 0 size 3;fish god at 0 size 2;fish god at 0 size 2", "buyer god money 99;buyer god money 13;buyer god money 14");
    is("14, 12 and 12", t.sale(-1), 38);
    is("the third can have any", t.sale(0) * 100 + t.sale(1) * 10 + t.sale(2), 12);
  }

  static void promise33() {
    LastCatch x = lying("fish god at 0 size 1", "buyer god money 9;buyer god money 10;buyer tell money 99;buyer god money 10 least 86;buyer god money 10 least 85");
    is("without", x.without(), 1 + 4 + 8);
    is("none", new LastCatch().without(), 0);
  }

  static void promise34() {
    LastCatch x = lying("fish god at 0 size 3 fresh 10;fish god at 0 size 9 fresh 10;fish god at 3 size 9;fish god at 0 size 2 fresh 20");
    is("fresh 5, 5, 15: one of two is lost", x.order(-1), 11);
    is("9 first", x.order(0), 1);
    is("then the lesser one, though lost", x.order(1), 0);
    is("then 2, still 5", x.order(2), 3);
    is("no more", x.order(3), -1);
    is("no such", x.order(-2), -1);
    LastCatch y = lying("fish god at 0 size 3;fish god at 0 size 3");
    is("all", y.order(-1), 6);
    is("by numbers", y.order(0) * 10 + y.order(1), 1);
    LastCatch z = law(y, "keep 5");
    is("none turns", z.order(-1), 6);
    LastCatch w = law(lying("fish god at 0 size 3 fresh 15;fish god at 0 size 3 fresh 99;fish god at 0 size 4 fresh 16"), "turn 5 if size < 4");
    is("by what each turns", w.order(-1), 10);
    is("the first by numbers: 0 now, 2 a day behind, 1 last", w.order(0) * 100 + w.order(1) * 10 + w.order(2), 12);
    LastCatch v = law(lying("fish god at 0 size 3 fresh 30;fish god at 0 size 3 fresh 16"), "turn 6 if size < 4");
    is("11 is 0 by the next day", v.order(0) * 10 + v.order(1), 10);
    is("nothing", new LastCatch().order(-1), 0);
    is("nothing", new LastCatch().order(0), -1);
    LastCatch u = lying(times(8, "fish god at 0 size 1", ";"));
    is("eight", u.order(-1), 8);
    is("the last", u.order(7), 7);
    is("no ninth", u.order(8), -1);
  }

  static void promise35() {
    LastCatch x = new LastCatch();
    is("gap 0", x.chase(0, 0), 0);
    is("gap 0", x.chase(0, 12), 0);
    is("gap 1, no turn", x.chase(1, 0), -1);
    is("gap 1: 2 on, 3 on", x.chase(1, 1), 1);
    is("gap 2: 4 less 3", x.chase(2, 1), -1);
    // 2: school 2, he 3: 1; school 1 (no 2), he 1 (no 3): 1; then school 2, he 3: 0
    is("gap 2", x.chase(2, 12), 3);
    is("gap 2 in 2", x.chase(2, 2), -1);
    is("gap 20", x.chase(20, 12), -1);
    fails("g", ARGUMENT, () -> x.chase(-1, 0));
    fails("g", ARGUMENT, () -> x.chase(21, 0));
    fails("t", ARGUMENT, () -> x.chase(0, -1));
    fails("t", ARGUMENT, () -> x.chase(0, 13));
    for (int g = 1; g <= 20; g++) for (int t = 0; t <= 12; t++) {
      is("he gains 1 in two turns: chase(" + g + ", " + t + ")", x.chase(g, t), 2 * g - 1 <= t ? 2 * g - 1 : -1);
    }
  }

  static void promise36() {
    LastCatch x = sea("fish god at 1 size 1;fish tell at 1 size 5;fish god at 1 size 4;fish god at 1 size 4");
    is("most", x.pairs(-1), 9);
    is("none is the least", x.pairs(0), -1);
    is("1 with 2", x.pairs(1) * 10 + x.pairs(2), 21);
    is("none", x.pairs(3), -1);
    LastCatch y = sea("fish god at 1 size 1;fish tell at 1 size 1;fish horse at 1 size 1;fish saying at 0 size 1;boat hold 1");
    is("all", y.pairs(-1), 4);
    is("the lesser", y.pairs(0) * 100 + y.pairs(1) * 10 + y.pairs(3), 102);
    y.days(19);
    is("gone", y.gone(), 8);
    is("without it", y.pairs(-1), 2);
    is("first such way", y.pairs(0) * 100 + y.pairs(1) * 10 + y.pairs(2), -100 + 21);
    is("gone", y.pairs(3), -1);
    is("nothing", new LastCatch().pairs(-1), 0);
    fails("fish", INDEX, () -> x.pairs(4));
    fails("fish", INDEX, () -> x.pairs(-2));
    LastCatch z = sea("fish tell at 0 size 1;fish god at 0 size 1;fish god at 0 size 9;boat hold 9");
    is("the greater one", z.pairs(-1) * 100 + z.pairs(0) * 10 + z.pairs(2), 1020);
    is("none", z.pairs(1), -1);
    z.days(1);
    is("order", z.order(-1), 11);
    is("not mixed up with an order", z.pairs(-1), 10);
    LastCatch w = sea("fish tell at 1 size 1;fish tell at 1 size 1;fish god at 1 size 1;fish god at 1 size 1;fish saying at 1 size 2");
    is("two pairs", w.pairs(-1), 5);
    is("0 is left out", w.pairs(0), -1);
    is("1 and 2, 3 and 4", w.pairs(1) * 1000 + w.pairs(2) * 100 + w.pairs(3) * 10 + w.pairs(4), 2143);
    LastCatch v = sea("fish tell at 1 size 1;fish tell at 1 size 1;fish god at 1 size 1;fish god at 1 size 1");
    is("0 and 2, 1 and 3", v.pairs(0) * 1000 + v.pairs(1) * 100 + v.pairs(2) * 10 + v.pairs(3), 2301);
    LastCatch u = sea("fish tell at 1 size 1;fish god at 1 size 3;fish horse at 1 size 3;fish horse at 1 size 3;fish horse at 1 size 3;fish horse at 1 size 3;fish horse at 1 size 3;fish saying at 1 size 2");
    is("eight", u.pairs(-1), 1 + 3 + 2 + 9);
    is("4 and 5 have none, so 6 has 7", u.pairs(0) * 100 + u.pairs(1) * 10 + u.pairs(7), 236);
  }

  static void promise37() {
    LastCatch x = sea("fish god at 1 size 1;fish god at 1 size 2;boat hold 1;boat hold 9");
    is("size 1: waiting at the rising", x.rests(0, 0), 4);
    is("size 1", x.rests(1, 0), 4);
    is("size 2: no rest", x.rests(0, 1), 0);
    fails("boat", INDEX, () -> x.rests(2, 0));
    fails("fish", INDEX, () -> x.rests(0, 2));
    fails("fish", INDEX, () -> x.rests(0, -1));
  }

  static void promise38() {
    LastCatch x = sea("buyer god money 1 keen 33;buyer god money 0");
    is("0", x.odds(0), 10000);
    is("1", x.odds(1), 3350);
    is("2: 3350, 2244, 1122", x.odds(2), 1122);
    is("3: 751, 375", x.odds(3), 375);
    is("4: 251, 125", x.odds(4), 125);
    is("none", new LastCatch().odds(4), 10000);
    is("always", sea("buyer god money 1 keen 100").odds(1), 0);
    is("never", sea("buyer god money 1 keen 0").odds(4), 10000);
    fails("n", ARGUMENT, () -> x.odds(-1));
    fails("n", ARGUMENT, () -> x.odds(5));
  }

  static void promise39() {
    LastCatch x = lying("fish god at 0 size 9 fresh 50;fish tell at 0 size 1 fresh 60;fish god at 0 size 1 fresh 60;fish god at 1 size 1 fresh 99");
    is("freshest", x.freshest(), 1);
    x.sponge(2, 1);
    is("freshest", x.freshest(), 2);
    is("none", sea("fish god at 0 size 1").freshest(), -1);
  }

  static void promise40() {
    LastCatch x = lying("fish god at 0 size 2 fresh 50;fish tell at 0 size 3 fresh 29;fish god at 0 size 1 fresh 60;fish god at 1 size 9 fresh 99");
    is("8, 8, 7", x.dearest(), 0);
    law(x, "dear 1 if kind < 1");
    is("by the law", x.dearest(), 1);
    is("none", sea("fish god at 0 size 1").dearest(), -1);
  }

  static void promise41() {
    LastCatch x = sea("boat hold 1;fish god at 0 size 1 fresh 5;fish tell at 1 size 1;fish god at 1 size 1");
    is("god", x.kind(1), 5);
    is("tell", x.kind(0), 2);
    is("saying", x.kind(3), 0);
    x.days(1);
    is("not gone", x.kind(1), 4);
    fails("kind", INDEX, () -> x.kind(4));
    fails("kind", INDEX, () -> x.kind(-1));
  }

  static void promise42() {
    LastCatch x = sea("boat hold 1;fish god at 0 size 1 fresh 5;fish god at 1 size 1;fish god at 1 size 1;fish tell at 1 size 1;fish god at 1 size 2");
    is("twins", x.twins(), 3);
    x.days(1);
    is("gone", x.gone(), 1);
    is("gone or not", x.twins(), 3);
    is("none", new LastCatch().twins(), 0);
  }

  static LastCatch allPlaces() {
    LastCatch x = sea("boat hold 9;boat hold 1 at 24;fish god at 0 size 1 fresh 5;fish god at 0 size 1;fish god at 1 size 1;fish god at 24 size 1;fish god at 0 size 1");
    x.days(1);
    return x;
  }

  static void promise43() { is("slab", allPlaces().slab(), 2 + 16); is("none", new LastCatch().slab(), 0); }
  static void promise44() { is("sea", allPlaces().sea(), 4); is("none", new LastCatch().sea(), 0); }
  static void promise45() { is("gone", allPlaces().gone(), 1); is("none", new LastCatch().gone(), 0); }

  static void promise46() {
    LastCatch x = allPlaces();
    is("0", x.spoils(0), 0);
    is("16", x.spoils(16), 0);
    is("17: 85 by 5", x.spoils(17), 2 + 8 + 16);
    is("60", x.spoils(60), 2 + 8 + 16);
    is("nothing stays", x.gone(), 1);
    sea(x, "buyer god money 999 keen 100");
    is("nobody buys", x.spoils(1), 0);
    fails("n", ARGUMENT, () -> x.spoils(-1));
    fails("n", ARGUMENT, () -> x.spoils(61));
  }

  static void promise47() {
    LastCatch x = sea("boat hold 2;fish tell at 0 size 3;fish god at 0 size 1;buyer tell money 40 keen 39");
    is("0", x.trial(0, false), 0);
    is("till", x.trial(1, false), 14);
    is("gone", x.trial(1, true), 1);
    is("gone", x.trial(18, true), 2);
    is("nothing stays", x.count(7) + x.count(8) + x.gone(), 0);
    is("nor a draw", x.seed(2), 1);
    is("acts", x.count(11), 0);
    fails("n", ARGUMENT, () -> x.trial(-1, true));
    fails("n", ARGUMENT, () -> x.trial(61, false));
  }

  static void promise48() {
    // the first draws of seeds 1 to 6 modulo 100: 38, 77, 67, 6, 46, 85
    LastCatch x = sea("boat hold 2;fish tell at 0 size 3;buyer tell money 40 keen 7");
    int[] draws = new int[7];
    for (int s = 1; s <= 6; s++) draws[s] = ((1103515245 * s + 12345) >>> 16 & 32767) % 100;
    int least = Arrays.stream(draws).skip(1).min().getAsInt();
    int most = Arrays.stream(draws).skip(1).max().getAsInt();
    sea(x, "day 1");
    is("0 days", x.span(0, true) + x.span(0, false), 0);
    LastCatch some = sea("boat hold 2;fish tell at 0 size 3;buyer tell money 40 keen " + (least + 1));
    is("one of six buys", some.span(1, true), 14);
    is("and others do not", some.span(1, false), 0);
    LastCatch none = sea("boat hold 2;fish tell at 0 size 3;buyer tell money 40 keen " + least);
    is("none buys", none.span(1, true), 0);
    LastCatch all = sea("boat hold 2;fish tell at 0 size 3;buyer tell money 40 keen " + (most + 1));
    is("all buy", all.span(1, false), 14);
    LastCatch but = sea("boat hold 2;fish tell at 0 size 3;buyer tell money 40 keen " + most);
    is("all but one", but.span(1, false), 0);
    is("seed stays", all.seed(1), 1);
    fails("n", ARGUMENT, () -> x.span(-1, true));
    fails("n", ARGUMENT, () -> x.span(61, false));
    for (int keen = 1; keen <= 100; keen += 3) for (int n = 0; n <= 18; n += 2) {
      LastCatch w = sea("boat hold 2;fish tell at 0 size 3;buyer tell money 40 keen " + keen);
      int[] tills = new int[6];
      for (int k = 1; k <= 6; k++) {
        int seed = k;
        for (int d = 1; d <= n && d < 18 && tills[k - 1] == 0; d++) {
          seed = 1103515245 * seed + 12345;
          if ((seed >>> 16 & 32767) % 100 < keen) tills[k - 1] = 6 + (90 - 5 * d) / 10;
        }
      }
      is("least of keen " + keen + " in " + n, w.span(n, false), Arrays.stream(tills).min().getAsInt());
      is("most of keen " + keen + " in " + n, w.span(n, true), Arrays.stream(tills).max().getAsInt());
    }
  }

  static void promise49() {
    LastCatch x = sea("day 5;boat hold 9;fish god at 0 size 1;fish god at 1 size 1", "buyer god money 99 keen 0");
    is("none", x.led(0, false), 0);
    is("none", x.led(0, true), -1);
    x.days(1);
    is("caught", x.led(0, false) * 10 + x.led(0, true), 15);
    x.days(2);
    x.sell(0, 0);
    is("sold", x.led(0, false) * 10 + x.led(0, true), 28);
    is("the other", x.led(1, false), 0);
    fails("fish", INDEX, () -> x.led(2, true));
    fails("fish", INDEX, () -> x.led(-1, false));
  }

  static void promise50() {
    LastCatch x = sea("boat hold 1;boat hold 1 at 6;fish god at 6 size 1 fresh 40;fish god at 0 size 1 fresh 5;fish god at 6 size 1;buyer god money 99 keen 100");
    is("without", x.log(0, 0), -2);
    x.days(1);
    log(x, 2, 0, 1, 0, 0, 5);
    log(x, 1, 0, 0, 0, 1, 40);
    log(x, 0, 0, 1, 1, -1, 0);
    is("no more", x.log(3, 0), -2);
    is("no more", x.log(-1, 4), -2);
    fails("what", ELEMENT, () -> x.log(0, 5));
    fails("what", ELEMENT, () -> x.log(0, -1));
    fails("what without a row", ELEMENT, () -> x.log(9, 5));
    LastCatch y = sea("boat hold 9;fish god at 0 size 1;day 100");
    for (int i = 0; i < 70; i++) {
      y.days(1);
      y.sponge(0, 9);
      y.release(0);
    }
    is("60 rows", y.count(10), 60);
    is("the latest", y.log(0, 0), 169);
    is("the oldest", y.log(59, 0), 110);
    is("none behind", y.log(60, 0), -2);
    is("led", y.led(0, false), 60);
  }

  static void promise51() {
    LastCatch x = new LastCatch();
    is("was", x.seed(-5), 1);
    is("was", x.seed(Integer.MIN_VALUE), -5);
    is("was", x.seed(0), Integer.MIN_VALUE);
    is("no act", x.count(11), 0);
    LastCatch y = sea("boat hold 9;fish god at 0 size 1;buyer god money 99 keen 1");
    y.seed(0);
    is("12345 by 65536 is 0", y.days(1), 1);
  }

  static void promise52() {
    LastCatch x = sea("boat hold 9;fish god at 0 size 3;fish god at 1 size 1;buyer god money 999 keen 100");
    is("none", x.undo(), false);
    x.days(2);
    x.ice(5);
    is("acts", x.count(11), 2);
    x.seed(99);
    x.image();
    tape(x, "ice");
    is("undone", x.undo(), true);
    is("ice", x.count(6), 8);
    is("the tape stays", x.end(3), true);
    is("undone", x.undo(), true);
    is("as ahead of it", x.count(6) * 100 + x.count(8) * 10 + x.count(7) + x.count(10), 1000);
    is("seed too", x.seed(1), 1);
    is("sea", x.sea(), 3);
    is("none", x.undo(), false);
    is("the image stays", x.back(), true);
    is("its ice", x.count(6), 13);
    is("its seed", x.seed(99), 99);
    LastCatch y = lying("fish god at 0 size 1;fish god at 0 size 2", "buyer god money 100", "buyer god money 3");
    is("a text forgets", y.count(11), 0);
    y.heads(0, 5);
    y.heads(0, 5);
    y.sponge(0, 1);
    y.pay(0, 1);
    y.tell(0, 0, 1);
    y.release(1);
    y.current(3, 3);
    y.sell(0, 0);
    is("eight", y.count(11), 8);
    is("till", y.count(7), 2 + 8);
    is("sell", y.undo() && y.slab() == 1 && y.count(7) == 0 && y.buyer(0, 1) == 101 && y.count(10) == 2, true);
    is("current", y.undo() && y.cell(3, 0) == 4, true);
    is("release", y.undo() && y.slab() == 3, true);
    is("tell", y.undo() && y.count(0) == 2, true);
    is("pay", y.undo() && y.buyer(0, 1) == 100, true);
    is("sponge", y.undo() && y.fish(0, 2) == 85, true);
    is("heads", y.undo() && y.boat(0, 1) == 5, true);
    is("heads", y.undo() && y.boat(0, 1) == -1, true);
    is("none", y.undo(), false);
    LastCatch z = new LastCatch();
    for (int i = 0; i < 20; i++) z.ice(1);
    is("12 at most", z.count(11), 12);
    for (int i = 0; i < 12; i++) is("undo", z.undo(), true);
    is("not more", z.undo(), false);
    is("ice", z.count(6), 18);
    z.ice(1);
    law(z, "keep 1");
    is("a law forgets", z.undo(), false);
    z.ice(1);
    fails("a wrong text", ARGUMENT, () -> tape(z, "x").law());
    fails("a refused act", ARGUMENT, () -> z.ice(0));
    is("forgets nothing", z.count(11), 1);
    z.image();
    is("an image forgets nothing", z.count(11), 1);
    z.back();
    is("going back forgets", z.undo(), false);
    LastCatch w = sea("boat hold 1;boat hold 1 at 12;fish god at 1 size 1;fish god at 13 size 1");
    w.heads(0, 1);
    w.days(1);
    log(w, 0, 0, 0, 0, 0, 90);
    w.heads(1, 13);
    w.days(1);
    log(w, 0, 1, 1, 0, 1, 90);
    w.undo();
    log(w, 0, 0, 0, 0, 0, 90);
    is("one row", w.count(10), 1);
    w.undo();
    w.undo();
    is("none", w.log(0, 0), -2);
  }

  static void promise53() {
    LastCatch x = sea("ice 3");
    x.image();
    x.ice(1);
    x.image();
    x.ice(1);
    x.back();
    is("one image, the latest", x.count(6), 4);
    x.ice(7);
    x.back();
    is("it stays", x.count(6), 4);
  }

  static void promise54() {
    LastCatch x = new LastCatch();
    x.ice(2);
    is("none", x.back(), false);
    is("nothing happens", x.count(11) * 100 + x.count(6), 112);
    sea(x, "fish god at 0 size 1;boat hold 1;dead god breath 1;buyer god money 5");
    law(x, "dear 3");
    x.seed(5);
    x.image();
    sea(x, "fish god at 0 size 1;boat hold 1;dead god breath 1;buyer god money 5;day 4;current 0 left");
    law(x, "dear 4;dear 5");
    x.days(1);
    fails("a wrong text", ARGUMENT, () -> tape(x, "ab ").law());
    tape(x, "abcd");
    is("back", x.back(), true);
    for (int i = 0; i < 4; i++) is("count(" + i + ")", x.count(i), 1);
    is("texts", x.count(4), 1);
    is("lines", x.count(5), 1);
    is("price by the old law", x.fish(0, 7), 2 + 9 + 3);
    is("day, log", x.count(8) + x.count(10), 0);
    is("current", x.cell(0, 0), 4);
    is("seed", x.seed(0), 5);
    is("fault stays", x.fault(), 0);
    is("the tape stays", x.end(4), true);
    is("again", x.back(), true);
    LastCatch y = sea("boat hold 1;boat hold 1 at 12;fish god at 1 size 1;fish god at 13 size 1");
    y.heads(0, 1);
    y.days(1);
    y.image();
    y.undo();
    y.undo();
    y.heads(1, 13);
    y.days(1);
    log(y, 0, 0, 1, 0, 1, 90);
    y.back();
    log(y, 0, 0, 0, 0, 0, 90);
    is("one row", y.count(10), 1);
  }

  static void promise55() {
    LastCatch x = sea("fish god at 0 size 1;fish god at 0 size 1;boat hold 1;buyer god money 5;buyer god money 7;buyer tell money 9;dead god breath 1;ice 4;day 7", "");
    int[] counts = {2, 1, 3, 1, 2, -1, 4, 0, 7, 21, 0, 0};
    for (int i = 0; i < counts.length; i++) is("count(" + i + ")", x.count(i), counts[i]);
    law(x, "keep 1;turn 2");
    x.days(1);
    x.pay(0, 6);
    x.sell(0, 0);
    int[] then = {2, 1, 3, 1, 2, 2, 3, 10, 8, 17, 2, 3};
    for (int i = 0; i < then.length; i++) is("count(" + i + ") then", x.count(i), then[i]);
    is("another", x.count(12), -1);
    is("another", x.count(-1), -1);
  }
}
