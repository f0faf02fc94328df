/** Every refusal that the document names, on both sides of its boundary: the first that fits, and nothing changes. */
public final class RefusalsTest extends Trial {
  private static final int MOST = 1000000000;
  private static final int[] NO_PLACES = {-1, 40, 41, -40, 255, 256, Integer.MIN_VALUE, Integer.MAX_VALUE};
  private static final int[] TOO_LARGE = {MOST + 1, -MOST - 1, Integer.MIN_VALUE, Integer.MAX_VALUE};

  /** Two variables, two generators, a basis, a certificate, and several polynomials. */
  private static IdealProver furnished() {
    IdealProver a = ideal(2, 1, "2*x^2+2*y^2-2", "x-y");
    a.basis(1000);
    Words.put(a, 0, "2*y^2-1");
    a.divide(0, 1);
    Words.put(a, 1, "x+7");
    Words.put(a, 2, "1000000000*x-1/999999999");
    Words.put(a, 3, "x^30*y^30");
    Words.put(a, 39, "y^2+x");
    return a;
  }

  /** The same, with no basis any more. */
  private static IdealProver bare() {
    IdealProver a = furnished();
    a.order(1);
    return a;
  }

  private static IdealProver crowded() {
    IdealProver a = new IdealProver(2);
    grid(a, 0, 10, 10);
    Words.put(a, 1, "x^10");
    return a;
  }

  private static IdealProver eight() {
    IdealProver a = ideal(2, 0, "x", "0", "y", "0", "0", "0", "0", "x+y");
    a.basis(10);
    Words.put(a, 0, "x-1");
    return a;
  }

  private static void no(String call, int want, Call made) {
    refused(RefusalsTest::furnished, call, want, made);
  }

  private static void noneChosen(String call, int want, Call made) {
    refused(RefusalsTest::bare, call, want, made);
  }

  private static void order() {
    says("order: -2 kind is not 0 .. 2");
    for (int kind : new int[] {-1, 3, 4, Integer.MIN_VALUE, Integer.MAX_VALUE}) no("order(" + kind + ")", -2, a -> a.order(kind));
    for (int kind = 0; kind <= 2; kind++) {
      IdealProver a = furnished();
      due("order(" + kind + ")", a.order(kind), 1);
      due("the BASIS is no more", a.stairs(), -3);
      due("nor what was proven", a.certificate(0, 0), -3);
      due("ORDER is of that kind", a.order(0), kind);
    }
  }

  private static void termPlaces() {
    says("term: -1 no such PLACE");
    for (int p : NO_PLACES) {
      no("term(" + p + ", 1, 1, 0)", -1, a -> a.term(p, 1, 1, 0));
      no("term(" + p + ", 0, 0, -1)", -1, a -> a.term(p, 0, 0, -1));
    }
    due("PLACE 0", new IdealProver(1).term(0, 1, 1, 0), 1);
    due("PLACE 39", new IdealProver(1).term(39, 1, 1, 0), 1);
  }

  private static void termBounds() {
    says("term: -2 over or under has a size above 1000000000, under is 0");
    for (int n : TOO_LARGE) {
      no("term(4, " + n + ", 1, 0)", -2, a -> a.term(4, n, 1, 0));
      no("term(4, 1, " + n + ", 0)", -2, a -> a.term(4, 1, n, 0));
      no("term(4, 0, " + n + ", 0)", -2, a -> a.term(4, 0, n, 0));
      no("term(4, " + n + ", " + n + ", 0)", -2, a -> a.term(4, n, n, 0));
    }
    no("term(4, 1, 0, 0)", -2, a -> a.term(4, 1, 0, 0));
    no("term(4, 0, 0, 0)", -2, a -> a.term(4, 0, 0, 0));
    for (int n : new int[] {MOST, -MOST}) {
      due("over " + n, new IdealProver(1).term(0, n, 1, 0), 1);
      due("under " + n, new IdealProver(1).term(0, 1, n, 0), 1);
    }
    says("term: -2 an exponent is above 30, that of no VARIABLE is not 0");
    for (int powers : new int[] {31, 31 << 8, 255, 255 << 8, 0x1E1F, 0x1F1E, 1 << 16, 30 << 16, 1 << 24, 128 << 24, -1, 0x01000001}) {
      no("term(4, 1, 1, " + powers + ")", -2, a -> a.term(4, 1, 1, powers));
      no("term(4, 0, 1, " + powers + ")", -2, a -> a.term(4, 0, 1, powers));
    }
    says("term: -2 is looked at before -7");
    no("term(2, 1000000001, 1, 1)", -2, a -> a.term(2, MOST + 1, 1, 1));
    refused(RefusalsTest::crowded, "term(0, 1, 1, 31)", -2, a -> a.term(0, 1, 1, 31));
    says("term: nothing, if over is 0");
    no("term(1, 0, 1, 0)", 2, a -> a.term(1, 0, 1, 0));
    no("term(1, 0, 5, 7)", 2, a -> a.term(1, 0, 5, 7));
    refused(RefusalsTest::crowded, "term(0, 0, 1, 30)", 100, a -> a.term(0, 0, 1, 30));
  }

  private static void termFull() {
    says("term: -7");
    no("a numerator", -7, a -> a.term(2, 1, 1, 1));
    no("a numerator with a denominator", -7, a -> a.term(2, -1, 2, 1));
    no("a denominator", -7, a -> a.term(2, 1, 2, 0));
    refused(RefusalsTest::crowded, "a 101st TERM", -7, a -> a.term(0, 1, 1, 10));
    due("a sum that fits", furnished().term(2, -1, 1, 1), 2);
  }

  private static void zeroSizeTold() {
    says("zero, size: -1");
    for (int p : NO_PLACES) {
      no("zero(" + p + ")", -1, a -> a.zero(p));
      no("size(" + p + ")", -1, a -> a.size(p));
    }
    says("told: -1 (PLACE, TERM), -2");
    for (int p : NO_PLACES) no("told(" + p + ", 0, 3)", -1, a -> a.told(p, 0, 3));
    for (int i : new int[] {-1, 2, 3, 100, Integer.MIN_VALUE, Integer.MAX_VALUE}) no("told(1, " + i + ", 3)", -1, a -> a.told(1, i, 3));
    no("a TERM of 0", -1, a -> a.told(9, 0, 0));
    for (int what : new int[] {-1, 3, Integer.MIN_VALUE, Integer.MAX_VALUE}) no("told(1, 0, " + what + ")", -2, a -> a.told(1, 0, what));
    due("the last TERM", furnished().told(1, 1, 0), 7);
    due("a denominator", furnished().told(2, 1, 1), 999999999);
    due("a numerator that looks like a refusal", furnished().told(2, 1, 0), -1);
    due("TERM 99", crowded().told(0, 99, 0), 1);
    due("TERM 100", crowded().told(0, 100, 0), -1);
  }

  private static void plus() {
    says("plus: -1 (any)");
    for (int p : NO_PLACES) {
      no("plus(" + p + ", 0, 1)", -1, a -> a.plus(p, 0, 1));
      no("plus(0, " + p + ", 1)", -1, a -> a.plus(0, p, 1));
      no("plus(0, 0, " + p + ")", -1, a -> a.plus(0, 0, p));
      no("FULL, but no PLACE", -1, a -> a.plus(2, 2, p));
    }
    due("PLACES 0 and 39", furnished().plus(0, 39, 39), 3);
    says("plus: -7");
    no("a numerator", -7, a -> a.plus(2, 2, 2));
    no("into another", -7, a -> a.plus(2, 2, 1));
    refused(RefusalsTest::crowded, "a 101st TERM", -7, a -> a.plus(0, 1, 0));
    refused(RefusalsTest::crowded, "a 101st TERM", -7, a -> a.plus(1, 0, 1));
    refused(RefusalsTest::crowded, "a 101st TERM", -7, a -> a.plus(1, 0, 0));
  }

  private static void times() {
    says("times: -1 (any)");
    for (int p : NO_PLACES) {
      no("times(" + p + ", 0, 1)", -1, a -> a.times(p, 0, 1));
      no("times(0, " + p + ", 1)", -1, a -> a.times(0, p, 1));
      no("times(0, 0, " + p + ")", -1, a -> a.times(0, 0, p));
      no("FULL, but no PLACE", -1, a -> a.times(2, 2, p));
    }
    due("PLACES 0 and 39", furnished().times(0, 39, 39), 4);
    says("times: -7");
    no("a numerator", -7, a -> a.times(2, 2, 2));
    no("an exponent", -7, a -> a.times(3, 1, 1));
    no("an exponent", -7, a -> a.times(1, 3, 3));
    refused(RefusalsTest::crowded, "a 101st TERM", -7, a -> a.times(0, 0, 0));
  }

  private static void same() {
    says("same: -1");
    for (int p : NO_PLACES) {
      no("same(" + p + ", 0)", -1, a -> a.same(p, 0));
      no("same(0, " + p + ")", -1, a -> a.same(0, p));
      no("same(" + p + ", " + p + ")", -1, a -> a.same(p, p));
    }
    says("same: 1 or 0");
    no("same(8, 9)", 1, a -> a.same(8, 9));
    no("same(39, 39)", 1, a -> a.same(39, 39));
    no("same(0, 9)", 0, a -> a.same(0, 9));
    no("same(9, 0)", 0, a -> a.same(9, 0));
    IdealProver b = new IdealProver(2);
    Words.put(b, 0, "x+y+1/2");
    String[] others = {"x+y+1/3", "x+y-1/2", "x+y^2+1/2", "x^2+y+1/2", "x+y", "x+1/2", "2*x+y+1/2", "x*y+x+y+1/2", "x+y+3/2"};
    for (String other : others) {
      Words.put(b, 1, other);
      due("same as " + other, b.same(0, 1), 0);
    }
    Words.put(b, 1, "1/2+y+x");
    due("same as itself, otherwise put", b.same(0, 1), 1);
  }

  private static int at(IdealProver a, int p, int v, int number) {
    return a.vanishes(p, v == 0 ? number : 0, v == 1 ? number : 0, v == 2 ? number : 0, v == 3 ? number : 0);
  }

  private static void vanishes() {
    says("vanishes: -1");
    for (int p : NO_PLACES) no("vanishes(" + p + ", 1001, 0, 0, 0)", -1, a -> a.vanishes(p, 1001, 0, 0, 0));
    says("vanishes: -2 a number of a VARIABLE that there is has a size above 1000");
    for (int n = 1; n <= 4; n++) {
      IdealProver b = new IdealProver(n);
      b.term(39, 1, 1, 0);
      for (int v = 0; v < 4; v++) {
        for (int number : new int[] {1001, -1001, Integer.MIN_VALUE, Integer.MAX_VALUE}) {
          due(n + " VARIABLES, number " + v + " is " + number, at(b, 39, v, number), v < n ? -2 : 0);
        }
        due("1000", at(b, 39, v, 1000), 0);
        due("-1000", at(b, 39, v, -1000), 0);
      }
    }
    no("vanishes(1, 1001, 0, 0, 0)", -2, a -> a.vanishes(1, 1001, 0, 0, 0));
    no("-2 before -7", -2, a -> a.vanishes(3, 1000, 1001, 0, 0));
    no("-2 of 0", -2, a -> a.vanishes(9, 0, -1001, 0, 0));
  }

  private static void vanishesFull() {
    says("vanishes: -7");
    no("1000^30", -7, a -> a.vanishes(3, 1000, 1, 0, 0));
    no("1000^30 * 0^30 is FULL first", -7, a -> a.vanishes(3, 1000, 0, 0, 0));
    no("0^30 * 1000^30 is 0 first", 1, a -> a.vanishes(3, 0, 1000, 0, 0));
    no("a sum that needs a denominator", -7, a -> a.vanishes(2, 1, 0, 0, 0));
    no("1^30 * 1^30", 0, a -> a.vanishes(3, 1, -1, 0, 0));
    IdealProver b = new IdealProver(2);
    Words.put(b, 0, "x^3");
    due("1000^3", b.vanishes(0, 1000, 0, 0, 0), 0);
    due("-1000^3", b.vanishes(0, -1000, 0, 0, 0), 0);
    Words.put(b, 0, "x^3+y");
    due("1000^3 + 1", b.vanishes(0, 1000, 1, 0, 0), -7);
    due("1000^3 + 0", b.vanishes(0, 1000, 0, 0, 0), 0);
    due("1000^3 - 1", b.vanishes(0, 1000, -1, 0, 0), 0);
    Words.put(b, 0, "2*x^3");
    due("2 * 1000^3", b.vanishes(0, 1000, 0, 0, 0), -7);
    Words.put(b, 0, "1/2*x^3*y");
    due("1/2 * 1000^3 * 2", b.vanishes(0, 1000, 2, 0, 0), 0);
    due("1/2 * 1000^3 * 3", b.vanishes(0, 1000, 3, 0, 0), -7);
    Words.put(b, 0, "1/1000000000*x^6-y");
    due("in lowest terms each time", b.vanishes(0, 1000, 1000, 0, 0), 0);
    due("0", b.vanishes(5, 1000, 1000, 0, 0), 1);
    says("vanishes: -7: from 0 on, for each TERM in ORDER");
    Words.put(b, 0, "x^3+y^30-y^2");
    due("kind 0: 1000^3 + 1", b.vanishes(0, 1000, 1, 0, 0), -7);
    b.order(1);
    due("kind 1: 1 + 1000^3", b.vanishes(0, 1000, 1, 0, 0), -7);
    Words.put(b, 0, "x^3+y^2-y^4");
    due("kind 1: - 1 + 1000^3 + 1", b.vanishes(0, 1000, 1, 0, 0), 0);
    b.order(0);
    due("kind 0: 1000^3 - 1 + 1", b.vanishes(0, 1000, 1, 0, 0), 0);
    Words.put(b, 0, "x^3+y-y^2*x");
    due("kind 0: 1000^3 - 1000 + 1", b.vanishes(0, 1000, 1, 0, 0), 0);
    Words.put(b, 0, "x^3+y^4-y^2");
    due("kind 0: 1000^3 + 16 - 4", b.vanishes(0, 1000, 2, 0, 0), -7);
  }

  private static void generator() {
    says("generator: -1, -4 there are 8");
    for (int p : NO_PLACES) {
      no("generator(" + p + ")", -1, a -> a.generator(p));
      refused(RefusalsTest::eight, "a ninth of no PLACE", -1, a -> a.generator(p));
    }
    refused(RefusalsTest::eight, "generator(0)", -4, a -> a.generator(0));
    refused(RefusalsTest::eight, "generator(39)", -4, a -> a.generator(39));
    IdealProver b = new IdealProver(1);
    for (int k = 0; k < 8; k++) due("generator(" + (39 - k) + ")", b.generator(39 - k), k);
    due("a ninth", b.generator(0), -4);
    due("clear", b.clear(), 8);
    due("room again", b.generator(0), 0);
    IdealProver c = furnished();
    due("generator(0)", c.generator(0), 2);
    due("the BASIS is no more", c.stairs(), -3);
    due("nor what was proven", c.certificate(0, 0), -3);
    c = furnished();
    due("clear", c.clear(), 2);
    due("the BASIS is no more", c.stairs(), -3);
    due("nor what was proven", c.certificate(0, 0), -3);
    due("clear", c.clear(), 0);
  }

  private static void basis() {
    says("basis: -2 steps are not 0 .. 20000");
    for (int steps : new int[] {-1, 20001, Integer.MIN_VALUE, Integer.MAX_VALUE}) {
      no("basis(" + steps + ")", -2, a -> a.basis(steps));
      noneChosen("basis(" + steps + ")", -2, a -> a.basis(steps));
    }
    due("20000", furnished().basis(20000), 2);
    due("0 steps, nothing to do", new IdealProver(1).basis(0), 0);
    due("0 steps, something to do", furnished().basis(0), -6);
    says("basis: -6, -7: there is no BASIS");
    IdealProver b = furnished();
    due("basis(1)", b.basis(1), -6);
    due("SPENT", b.stairs(), -3);
    due("nor what was proven", b.certificate(0, 0), -3);
    due("GENERATORS stay", b.basis(1000), 2);
    due("nothing is proven of this BASIS", b.certificate(0, 0), -3);
    b = ideal(1, 0, "x", "1/2*x+1000000000");
    due("FULL", b.basis(1000), -7);
    due("no BASIS", b.stairs(), -3);
    due("GENERATORS stay", b.clear(), 2);
  }

  private static void done() {
    says("done: -2");
    for (int what : new int[] {-1, 4, Integer.MIN_VALUE, Integer.MAX_VALUE}) {
      no("done(" + what + ")", -2, a -> a.done(what));
      due("before any basis()", new IdealProver(1).done(what), -2);
    }
    says("done: 0 before");
    for (int what = 0; what < 4; what++) due("done(" + what + ")", new IdealProver(3).done(what), 0);
  }

  private static void element() {
    says("element: -3 there is no BASIS, -1");
    noneChosen("element(0, 0)", -3, a -> a.element(0, 0));
    noneChosen("element(-1, 40)", -3, a -> a.element(-1, 40));
    for (int p : NO_PLACES) no("element(0, " + p + ")", -1, a -> a.element(0, p));
    for (int i : new int[] {-1, 2, 24, 25, Integer.MIN_VALUE, Integer.MAX_VALUE}) no("element(" + i + ", 0)", -1, a -> a.element(i, 0));
    due("the last ELEMENT into the last PLACE", furnished().element(1, 39), 2);
    IdealProver none = new IdealProver(1);
    none.basis(0);
    due("a BASIS without ELEMENTS", none.element(0, 0), -1);
  }

  private static void share() {
    says("share: -3, -1");
    noneChosen("share(0, 0, 0)", -3, a -> a.share(0, 0, 0));
    noneChosen("share(-1, -1, -1)", -3, a -> a.share(-1, -1, -1));
    for (int p : NO_PLACES) no("share(0, 0, " + p + ")", -1, a -> a.share(0, 0, p));
    for (int i : new int[] {-1, 2, 24, 25, Integer.MIN_VALUE, Integer.MAX_VALUE}) {
      no("share(" + i + ", 0, 0)", -1, a -> a.share(i, 0, 0));
      no("share(0, " + i + ", 0)", -1, a -> a.share(0, i, 0));
    }
    for (int k : new int[] {8, 9}) refused(RefusalsTest::eight, "share(0, " + k + ", 0)", -1, a -> a.share(0, k, 0));
    due("the last GENERATOR into the last PLACE", eight().share(0, 7, 39), 0);
  }

  private static void divide() {
    says("divide: -1 (either), -3 there is no BASIS");
    for (int p : NO_PLACES) {
      no("divide(" + p + ", 0)", -1, a -> a.divide(p, 0));
      no("divide(0, " + p + ")", -1, a -> a.divide(0, p));
      noneChosen("divide(" + p + ", 0)", -1, a -> a.divide(p, 0));
      noneChosen("divide(0, " + p + ")", -1, a -> a.divide(0, p));
    }
    noneChosen("divide(0, 0)", -3, a -> a.divide(0, 0));
    due("PLACES 0 and 39", furnished().divide(0, 39), 1);
    due("PLACES 39 and 0", furnished().divide(39, 0), 0);
    says("divide: -7");
    Maker steep = () -> {
      IdealProver a = ideal(2, 0, "x-y^16", "0");
      a.basis(10);
      Words.put(a, 0, "x*y-y^17");
      Words.put(a, 1, "x^2");
      a.divide(0, 2);
      Words.put(a, 2, "7");
      return a;
    };
    due("what was proven before", certificates(steep.make()), "y 0");
    refused(steep, "an exponent of 32", -7, a -> a.divide(1, 2));
    refused(steep, "into itself", -7, a -> a.divide(1, 1));
    IdealProver b = ideal(1, 0, "x-2");
    b.basis(10);
    Words.put(b, 0, "500000000*x");
    due("1000000000", b.divide(0, 1), 0);
    Words.put(b, 0, "500000001*x");
    due("1000000002", b.divide(0, 1), -7);
    due("as before", Words.get(b, 1), "1000000000");
  }

  private static void certificate() {
    says("certificate: -3, -1, -7");
    noneChosen("certificate(0, 0)", -3, a -> a.certificate(0, 0));
    noneChosen("certificate(-1, -1)", -3, a -> a.certificate(-1, -1));
    for (int p : NO_PLACES) no("certificate(0, " + p + ")", -1, a -> a.certificate(0, p));
    for (int k : new int[] {-1, 2, 8, 9, Integer.MIN_VALUE, Integer.MAX_VALUE}) no("certificate(" + k + ", 0)", -1, a -> a.certificate(k, 0));
    due("the last GENERATOR into the last PLACE", furnished().certificate(1, 39), 2);
    Maker wide = () -> {
      IdealProver a = ideal(2, 0, "x*y-1", "x^2");
      a.basis(100);
      return a;
    };
    due("1 has these COFACTORS", shares(wide.make(), 0), "-x*y-1 y^2");
    Maker long30 = () -> {
      IdealProver a = wide.make();
      Words.put(a, 0, "x^30");
      a.divide(0, 1);
      return a;
    };
    refused(long30, "an exponent of 31", -7, a -> a.certificate(0, 5));
    due("the other one is not FULL", long30.make().certificate(1, 5), 1);
    IdealProver b = wide.make();
    grid(b, 0, 10, 10);
    b.divide(0, 1);
    due("119 TERMS", b.certificate(0, 5), -7);
    due("100 TERMS", b.certificate(1, 5), 100);
    Maker large = () -> {
      IdealProver a = ideal(1, 0, "1/1000*x");
      a.basis(10);
      Words.put(a, 0, "1000001*x");
      a.divide(0, 1);
      return a;
    };
    refused(large, "a numerator of 1000001000", -7, a -> a.certificate(0, 0));
    IdealProver c = large.make();
    Words.put(c, 0, "1000000*x");
    c.divide(0, 1);
    due("a numerator of 1000000000", c.certificate(0, 0), 1);
  }

  private static void whichDivide() {
    says("certificate: Behind a divide() that answered 1 (the latest that was not refused, of this BASIS)");
    IdealProver a = ideal(2, 0, "x-1", "y-1");
    a.basis(100);
    due("none yet", a.certificate(0, 9), -3);
    Words.put(a, 0, "x-1");
    Words.put(a, 1, "2*y-2");
    Words.put(a, 2, "x");
    a.divide(0, 9);
    due("of the first", certificates(a), "1 0");
    a.divide(1, 9);
    due("of the latest", certificates(a), "0 2");
    due("refused by -1", a.divide(0, 40), -1);
    due("of the latest that was not refused", certificates(a), "0 2");
    due("of what was divided, not of what is there now", a.zero(1), 2);
    due("of what was divided", certificates(a), "0 2");
    due("answered 0", a.divide(2, 9), 0);
    due("no more", a.certificate(0, 9), -3);
    due("no more, though one is refused then", a.divide(0, 40), -1);
    due("no more", a.certificate(0, 9), -3);
    due("of 0", a.divide(30, 9), 1);
    due("of 0", certificates(a), "0 0");
    due("a basis refused by -2", a.basis(20001), -2);
    due("an order refused by -2", a.order(3), -2);
    due("still", a.certificate(1, 9), 0);
    due("the same BASIS made again is another one", a.basis(100), 2);
    due("no more", a.certificate(1, 9), -3);
  }

  private static void check() {
    says("check: -3, -7");
    noneChosen("check()", -3, IdealProver::check);
    no("check()", 1, IdealProver::check);
    Maker full = () -> {
      IdealProver a = ideal(3, 0, "x^8*z^7", "x^2*z^8+1");
      a.basis(20000);
      Words.put(a, 0, "y");
      a.divide(0, 1);
      return a;
    };
    refused(full, "check()", -7, IdealProver::check);
    due("the BASIS stays", full.make().stairs(), 0);
  }

  private static void radical() {
    says("radical: -1, -2 steps, -3 there are four VARIABLES, -6, -7");
    for (int p : NO_PLACES) no("radical(" + p + ", -1)", -1, a -> a.radical(p, -1));
    for (int steps : new int[] {-1, 20001, Integer.MIN_VALUE, Integer.MAX_VALUE}) {
      no("radical(0, " + steps + ")", -2, a -> a.radical(0, steps));
      due("with four VARIABLES", new IdealProver(4).radical(0, steps), -2);
    }
    due("four VARIABLES, no PLACE", new IdealProver(4).radical(40, 0), -1);
    due("four VARIABLES", new IdealProver(4).radical(0, 0), -3);
    due("four VARIABLES", new IdealProver(9).radical(39, 20000), -3);
    Maker four = () -> {
      IdealProver a = ideal(4, 0, "x");
      a.basis(10);
      return a;
    };
    refused(four, "four VARIABLES", -3, a -> a.radical(0, 100));
    for (int n = 1; n <= 3; n++) due(n + " VARIABLES", new IdealProver(n).radical(39, 0), 1);
    no("SPENT", -6, a -> a.radical(0, 1));
    noneChosen("SPENT", -6, a -> a.radical(0, 1));
    no("lies there", 1, a -> a.radical(0, 20000));
    no("lies there not", 0, a -> a.radical(39, 20000));
    noneChosen("lies there, without a BASIS", 1, a -> a.radical(0, 20000));
    no("FULL", -7, a -> a.radical(3, 20000));
    refused(RefusalsTest::crowded, "FULL of the new GENERATOR", -7, a -> a.radical(0, 20000));
    refused(RefusalsTest::eight, "a ninth GENERATOR", 0, a -> a.radical(0, 20000));
    IdealProver b = eight();
    due("behind eight", b.radical(9, 20000), 1);
    due("eight", b.clear(), 8);
  }

  private static void freeAndStairs() {
    says("free: -2 k is not 0 .. n, -3");
    for (int n = 1; n <= 4; n++) {
      IdealProver b = new IdealProver(n);
      due("no BASIS", b.free(0), -3);
      due("no BASIS", b.free(n), -3);
      due("n + 1, no BASIS", b.free(n + 1), -2);
      due("-1, no BASIS", b.free(-1), -2);
      b.basis(0);
      due("0", b.free(0), 0);
      due("n", b.free(n), 0);
      due("n + 1", b.free(n + 1), -2);
    }
    for (int k : new int[] {-1, 3, 4, 5, Integer.MIN_VALUE, Integer.MAX_VALUE}) {
      no("free(" + k + ")", -2, a -> a.free(k));
      noneChosen("free(" + k + ")", -2, a -> a.free(k));
    }
    for (int k = 0; k <= 2; k++) {
      int which = k;
      noneChosen("free(" + k + ")", -3, a -> a.free(which));
      no("free(" + k + ")", 2 - k, a -> a.free(which));
    }
    says("stairs: -8 when there is no end of them. -3");
    noneChosen("stairs()", -3, IdealProver::stairs);
    no("stairs()", 2, IdealProver::stairs);
    for (int n = 1; n <= 4; n++) {
      IdealProver b = new IdealProver(n);
      due("no BASIS", b.stairs(), -3);
      b.basis(0);
      due("no ELEMENT", b.stairs(), -8);
    }
  }

  public static void main(String[] args) {
    order();
    termPlaces();
    termBounds();
    termFull();
    zeroSizeTold();
    plus();
    times();
    same();
    vanishes();
    vanishesFull();
    generator();
    basis();
    done();
    element();
    share();
    divide();
    certificate();
    whichDivide();
    check();
    radical();
    freeAndStairs();
    end();
  }
}
