/** Each promise of the document: ordinary inputs, the edges that it names, and wrong inputs. */
public final class PromisesTest extends Trial {
  private static void newObject() {
    says("promise 1");
    int[][] cases = {{1, 1}, {4, 4}, {0, 1}, {-5, 1}, {5, 4}, {Integer.MIN_VALUE, 1}, {Integer.MAX_VALUE, 4}, {3, 3}};
    for (int[] c : cases) due("variables of " + c[0], new IdealProver(c[0]).variables(), c[1]);
    IdealProver a = new IdealProver(3);
    for (int p = 0; p < 40; p++) due("size(" + p + ")", a.size(p), 0);
    due("element", a.element(0, 0), -3);
    due("stairs", a.stairs(), -3);
    due("clear", a.clear(), 0);
    due("dones", dones(a), "0 0 0 0");
    due("order", a.order(0), 0);
  }

  private static void numberOfVariables() {
    says("promise 2");
    IdealProver a = ideal(2, 0, "x-y");
    a.basis(100);
    a.radical(0, 10);
    due("variables", a.variables(), 2);
  }

  private static void orders() {
    says("promise 3");
    IdealProver a = new IdealProver(4);
    due("order(1)", a.order(1), 0);
    due("order(2)", a.order(2), 1);
    due("order(3)", a.order(3), -2);
    due("order(-1)", a.order(-1), -2);
    due("order(MIN)", a.order(Integer.MIN_VALUE), -2);
    due("order(2)", a.order(2), 2);
    due("order(0)", a.order(0), 2);
    Words.put(a, 5, "1+w^5+z^2+y*w^2+y^2+x*w+x*z+x*y+x");
    due("kind 0", Words.get(a, 5), "x*y+x*z+x*w+x+y^2+y*w^2+z^2+w^5+1");
    a.order(1);
    due("kind 1", Words.get(a, 5), "w^5+y*w^2+x*y+y^2+x*z+z^2+x*w+x+1");
    a.order(2);
    due("kind 2", Words.get(a, 5), "x*y+x*z+x*w+x+w^5+y*w^2+y^2+z^2+1");
    a.order(0);
    due("kind 0 again", Words.get(a, 5), "x*y+x*z+x*w+x+y^2+y*w^2+z^2+w^5+1");
    Words.put(a, 6, "x^30+y^30*z^30*w^30");
    due("greatest 0", a.told(6, 0, 2), 30);
    a.order(1);
    due("greatest 1", a.told(6, 1, 2), 30);
    orderAndBasis();
  }

  private static void orderAndBasis() {
    IdealProver a = ideal(2, 0, "x-y^2", "y^3-1");
    a.basis(100);
    due("elements 0", elements(a), "y^3-1 x-y^2");
    due("order refused", a.order(3), -2);
    due("the basis stays", a.stairs(), 3);
    due("order(0)", a.order(0), 0);
    due("no basis", a.stairs(), -3);
    a.order(1);
    due("basis", a.basis(100), 3);
    due("generators in another order", elements(a), "y^2-x x*y-1 x^2-y");
  }

  private static void terms() {
    says("promise 4");
    IdealProver a = new IdealProver(2);
    due("first", a.term(0, 2, 4, 1), 1);
    due("lowest terms", Words.get(a, 0), "1/2*x");
    due("both below 0", a.term(0, -3, -9, 256), 2);
    due("under below 0", a.term(0, 3, -9, 0), 3);
    due("signs", Words.get(a, 0), "1/2*x+1/3*y-1/3");
    due("added", a.term(0, 1, 3, 1), 3);
    due("added", Words.get(a, 0), "5/6*x+1/3*y-1/3");
    due("goes", a.term(0, 1, 3, 0), 2);
    due("over 0", a.term(0, 0, -7, 5), 2);
    due("over and under 0", a.term(0, 0, 0, 5), -2);
    due("over 0, powers wrong", a.term(0, 0, 1, 31), -2);
    for (int p : new int[] {-1, 40, Integer.MIN_VALUE, Integer.MAX_VALUE}) due("place " + p, a.term(p, 1, 0, 31), -1);
    for (int n : new int[] {1000000001, -1000000001, Integer.MIN_VALUE, Integer.MAX_VALUE}) {
      due("over " + n, a.term(1, n, 1, 0), -2);
      due("under " + n, a.term(1, 1, n, 0), -2);
    }
    due("greatest parts", a.term(1, -1000000000, 1, 0), 1);
    due("greatest parts", a.term(2, 999999999, -1000000000, 0), 1);
    due("numerator", a.told(2, 0, 0), -999999999);
    due("denominator", a.told(2, 0, 1), 1000000000);
    int[] bad = {31, 31 << 8, 255, 0xFF00, 1 << 16, 1 << 24, Integer.MIN_VALUE, -1, 32, 64, 128};
    for (int powers : bad) due("powers " + powers, a.term(3, 1, 1, powers), -2);
    due("greatest powers", a.term(3, 1, 1, 30 | 30 << 8), 1);
    due("four variables", new IdealProver(4).term(0, 1, 1, 0x1E1E1E1E), 1);
    due("four variables", new IdealProver(4).term(0, 1, 1, 0x1F000000), -2);
    due("four variables", new IdealProver(4).term(0, 1, 1, 0x80000000), -2);
    due("one variable", new IdealProver(1).term(0, 1, 1, 256), -2);
    fullTerms(a);
  }

  private static void fullTerms(IdealProver a) {
    due("a part too large", a.term(1, -1, 1, 0), -7);
    due("unchanged", Words.get(a, 1), "-1000000000");
    a.term(4, 1, 31623, 0);
    due("a denominator too large", a.term(4, 1, 31627, 0), -7);
    due("lowest terms before the size is looked at", a.term(4, 1, 31623, 0), 1);
    due("sum", Words.get(a, 4), "2/31623");
    grid(a, 5, 10, 10);
    due("100 terms", a.size(5), 100);
    due("a 101st", a.term(5, 1, 1, 10), -7);
    due("one of the 100", a.term(5, 1, 1, 9), 100);
    due("one that goes", a.term(5, -2, 1, 9), 99);
    due("room again", a.term(5, 1, 1, 10), 100);
    due("leading", a.told(5, 0, 2), 10);
  }

  private static void zeroAndSize() {
    says("promise 5");
    IdealProver a = new IdealProver(2);
    Words.put(a, 39, "x+y+1");
    due("zero", a.zero(39), 3);
    due("zero", a.zero(39), 0);
    for (int p : new int[] {-1, 40, Integer.MIN_VALUE, Integer.MAX_VALUE}) due("zero(" + p + ")", a.zero(p), -1);
    says("promise 6");
    Words.put(a, 0, "x+y+1");
    due("size", a.size(0), 3);
    due("size", a.size(39), 0);
    for (int p : new int[] {-1, 40, Integer.MIN_VALUE, Integer.MAX_VALUE}) due("size(" + p + ")", a.size(p), -1);
  }

  private static void telling() {
    says("promise 7");
    IdealProver a = new IdealProver(4);
    a.term(7, -6, 4, 1 | 2 << 8 | 3 << 16 | 30 << 24);
    a.term(7, 5, 1, 2);
    due("numerator", a.told(7, 1, 0), -3);
    due("denominator", a.told(7, 1, 1), 2);
    due("powers", a.told(7, 1, 2), 0x1E030201);
    due("first", a.told(7, 0, 2), 2);
    due("what 3", a.told(7, 0, 3), -2);
    due("what -1", a.told(7, 0, -1), -2);
    due("no term", a.told(7, 2, 3), -1);
    due("no term", a.told(7, -1, 0), -1);
    due("no term", a.told(8, 0, 0), -1);
    due("no place", a.told(40, 0, 9), -1);
    due("no place", a.told(-1, 0, 0), -1);
    due("no term", a.told(7, Integer.MAX_VALUE, 0), -1);
  }

  private static void sums() {
    says("promise 8");
    IdealProver a = new IdealProver(2);
    Words.put(a, 0, "x^2+1/2*x-1");
    Words.put(a, 1, "y-1/2*x+1/3");
    due("plus", a.plus(0, 1, 2), 3);
    due("sum", Words.get(a, 2), "x^2+y-2/3");
    due("r is p", a.plus(0, 1, 0), 3);
    due("r is p", Words.get(a, 0), "x^2+y-2/3");
    due("r is q", a.plus(2, 1, 1), 4);
    due("r is q", Words.get(a, 1), "x^2-1/2*x+2*y-1/3");
    due("all the same", a.plus(1, 1, 1), 4);
    due("all the same", Words.get(a, 1), "2*x^2-x+4*y-2/3");
    due("0", a.plus(30, 31, 32), 0);
    for (int p : new int[] {-1, 40, Integer.MIN_VALUE}) {
      due("p", a.plus(p, 0, 0), -1);
      due("q", a.plus(0, p, 0), -1);
      due("r", a.plus(0, 0, p), -1);
    }
    fullSums(a);
  }

  private static void fullSums(IdealProver a) {
    Words.put(a, 3, "x+999999999");
    Words.put(a, 4, "y+2");
    due("a part too large", a.plus(3, 4, 3), -7);
    due("unchanged", Words.get(a, 3), "x+999999999");
    grid(a, 5, 10, 10);
    Words.put(a, 6, "x^11-x^9*y^9");
    due("a 101st term, though another goes later", a.plus(5, 6, 5), -7);
    due("unchanged", a.size(5), 100);
    Words.put(a, 6, "-x^9*y^9+x");
    due("one goes", a.plus(5, 6, 5), 99);
    Words.put(a, 6, "-x^9*y^8+y^20");
    due("one goes first", a.plus(5, 6, 5), 99);
    Words.put(a, 6, "y^20+y^21+y^22");
    due("others 101", a.plus(5, 6, 5), -7);
  }

  private static void products() {
    says("promise 9");
    IdealProver a = new IdealProver(3);
    Words.put(a, 0, "x+1/2*y");
    Words.put(a, 1, "x-1/2*y");
    due("times", a.times(0, 1, 2), 2);
    due("product", Words.get(a, 2), "x^2-1/4*y^2");
    due("r is p", a.times(0, 1, 0), 2);
    due("r is q", a.times(0, 1, 1), 4);
    due("product", Words.get(a, 1), "x^3-1/2*x^2*y-1/4*x*y^2+1/8*y^3");
    due("by 0", a.times(0, 9, 1), 0);
    for (int p : new int[] {-1, 40, Integer.MAX_VALUE}) {
      due("p", a.times(p, 0, 0), -1);
      due("q", a.times(0, p, 0), -1);
      due("r", a.times(0, 0, p), -1);
    }
    Words.put(a, 3, "x^15*y^15*z^15");
    due("exponents 30", a.times(3, 3, 4), 1);
    Words.put(a, 5, "z");
    due("an exponent 31", a.times(4, 5, 6), -7);
    Words.put(a, 6, "31623");
    due("a part too large", a.times(6, 6, 7), -7);
    Words.put(a, 6, "31622");
    due("a part just so", a.times(6, 6, 7), 1);
    Words.put(a, 6, "1000000000/7");
    Words.put(a, 7, "49/1000000000");
    due("lowest terms", a.times(6, 7, 8), 1);
    due("lowest terms", Words.get(a, 8), "7");
    fullProducts(a);
  }

  private static void fullProducts(IdealProver a) {
    grid(a, 10, 10, 1);
    grid(a, 11, 1, 10);
    due("100 terms", a.times(10, 11, 12), 100);
    Words.put(a, 13, "z+1");
    due("200 terms", a.times(12, 13, 12), -7);
    due("unchanged", a.size(12), 100);
    Words.put(a, 14, "x-y");
    due("x g has 100 terms, then comes one more, and only then others go", a.times(14, 12, 16), -7);
    due("the other way round they go in time", a.times(12, 14, 16), 38);
  }

  private static void sameness() {
    says("promise 10");
    IdealProver a = new IdealProver(2);
    Words.put(a, 0, "x+1/2");
    Words.put(a, 1, "1/2+x");
    due("same", a.same(0, 1), 1);
    due("itself", a.same(0, 0), 1);
    due("zeros", a.same(20, 21), 1);
    Words.put(a, 2, "x+1/3");
    Words.put(a, 3, "y+1/2");
    Words.put(a, 4, "x");
    Words.put(a, 5, "x+1/2+y");
    for (int p = 2; p <= 5; p++) due("another " + p, a.same(0, p), 0);
    for (int p = 2; p <= 5; p++) due("another " + p, a.same(p, 1), 0);
    due("no place", a.same(0, 40), -1);
    due("no place", a.same(-1, 0), -1);
  }

  private static void points() {
    says("promise 11");
    IdealProver a = new IdealProver(3);
    Words.put(a, 0, "x^2+y^2-z^2");
    due("point", a.vanishes(0, 3, -4, 5, 5000), 1);
    due("point", a.vanishes(0, 3, -4, 4, 0), 0);
    due("0", a.vanishes(1, 1, 1, 1, 1), 1);
    Words.put(a, 1, "1/2*x*y^2-2/3*z");
    due("fractions", a.vanishes(1, 3, 2, 9, 0), 1);
    due("fractions", a.vanishes(1, 3, 2, 8, 0), 0);
    due("greatest", a.vanishes(0, 1000, -1000, 0, 0), 0);
    due("no place", a.vanishes(40, 9999, 0, 0, 0), -1);
    for (int n : new int[] {1001, -1001, Integer.MIN_VALUE, Integer.MAX_VALUE}) {
      due("a", a.vanishes(0, n, 0, 0, 0), -2);
      due("b", a.vanishes(0, 0, n, 0, 0), -2);
      due("c", a.vanishes(0, 0, 0, n, 0), -2);
      due("d does not count", a.vanishes(0, 0, 0, 0, n), 1);
    }
    Words.put(a, 2, "x^3");
    due("1000^3", a.vanishes(2, 1000, 0, 0, 0), 0);
    Words.put(a, 2, "x^4*y");
    due("FULL before it is 0", a.vanishes(2, 1000, 0, 0, 0), -7);
    Words.put(a, 2, "x*y^30");
    due("0 before it is FULL", a.vanishes(2, 0, 1000, 0, 0), 1);
    Words.put(a, 2, "1/1000*x^4");
    due("lowest terms each time", a.vanishes(2, 1000, 0, 0, 0), 0);
    Words.put(a, 2, "x^3+y-z^3");
    due("a sum too large on the way", a.vanishes(2, 1000, 1, 1000, 0), -7);
    Words.put(a, 2, "x^3-y^3+z");
    due("a sum that is not", a.vanishes(2, 1000, 1000, 0, 0), 1);
  }

  private static void generators() {
    says("promise 12");
    IdealProver a = new IdealProver(2);
    Words.put(a, 0, "x-1");
    due("no place", a.generator(40), -1);
    due("no place", a.generator(-1), -1);
    due("generator", a.generator(0), 0);
    Words.put(a, 0, "y");
    a.basis(10);
    due("as it was", elements(a), "x-1");
    due("refused", a.generator(40), -1);
    due("the basis stays", a.free(0), 1);
    due("generator", a.generator(0), 1);
    due("the basis is no more", a.free(0), -3);
    for (int k = 2; k < 8; k++) due("generator", a.generator(9), k);
    a.basis(10);
    due("a ninth", a.generator(0), -4);
    due("a ninth of no place", a.generator(40), -1);
    due("the basis stays", a.free(0), 2);
    due("of generator 7", a.share(0, 7, 5), 0);
    says("promise 13");
    due("clear", a.clear(), 8);
    due("the basis is no more", a.free(0), -3);
    due("clear", a.clear(), 0);
    due("basis", a.basis(0), 0);
    due("generator", a.generator(0), 0);
  }

  private static void bases() {
    says("promise 14");
    IdealProver a = ideal(2, 0, "x^2+y^2-1", "x-y");
    due("steps", a.basis(-1), -2);
    due("steps", a.basis(20001), -2);
    due("steps", a.basis(Integer.MIN_VALUE), -2);
    due("basis", a.basis(20000), 2);
    due("elements", elements(a), "y^2-1/2 x-y");
    due("steps refused", a.basis(20001), -2);
    due("the basis stays", a.stairs(), 2);
    due("just enough", a.basis(5), 2);
    due("one too few", a.basis(4), -6);
    due("no basis", a.stairs(), -3);
    a = ideal(3, 1, "x+y+z", "x*y+y*z+z*x", "x*y*z-1");
    due("cyclic 3", a.basis(20000), 3);
    due("cyclic 3", elements(a), "x+y+z y^2+y*z+z^2 z^3-1");
    a = ideal(3, 0, "x^2+y+z-1", "x+y^2+z-1", "x+y+z^2-1");
    due("three surfaces", a.basis(20000), 4);
    due("three surfaces", elements(a), "z^6-4*z^4+4*z^3-z^2 y*z^2+1/2*z^4-1/2*z^2 y^2-y-z^2+z x+y+z^2-1");
    a = ideal(2, 0, "2*x-2", "3*x-4");
    due("all", a.basis(100), 1);
    due("all", elements(a), "1");
    a = ideal(2, 0, "0", "2*x", "0", "x", "x");
    due("the same", a.basis(100), 1);
    due("the same: the first stays", a.share(0, 1, 0), 1);
    due("the same: the first stays", Words.get(a, 0), "1/2");
    a = ideal(4, 2, "x-y", "y-z", "z-w");
    due("chain", a.basis(100), 3);
    due("chain", elements(a), "z-w y-w x-w");
    fullBases();
  }

  private static void fullBases() {
    IdealProver a = ideal(1, 0, "2*x+1", "1000000000*x+999999999");
    due("pair", a.basis(100), 1);
    a = ideal(1, 0, "1/2*x+1", "1/10*x^2+999999999");
    due("not MONIC", a.basis(100), -7);
    due("nothing was done", dones(a), "0 0 0 1");
    due("no basis", a.element(0, 0), -3);
    a = ideal(2, 0, "x^2+y^20", "x*y^20+1");
    due("an exponent above 30", a.basis(1000), -7);
    due("in the pair", dones(a), "0 1 0 2");
    a = ideal(2, 0, "x*y-1", "x^2-y");
    due("fits", a.basis(1000), 2);
    a = ideal(3, 2, "x^4*y^6-y^4*z^5", "x^5*y^2-1");
    due("a 25th element", a.basis(20000), -7);
    due("there were 24", a.done(3), 24);
  }

  private static void deeds() {
    says("promise 15");
    IdealProver a = ideal(2, 0, "x^2+y^2-1", "x-y");
    due("before", dones(a), "0 0 0 0");
    a.basis(20001);
    due("refused by -2", dones(a), "0 0 0 0");
    a.basis(1000);
    due("done", dones(a), "5 3 2 3");
    a.basis(-1);
    due("refused by -2", dones(a), "5 3 2 3");
    a.radical(0, 1000);
    a.divide(0, 1);
    a.order(1);
    a.clear();
    due("of the latest basis()", dones(a), "5 3 2 3");
    due("what -1", a.done(-1), -2);
    due("what 4", a.done(4), -2);
    a = ideal(2, 0, "x^2+y^2-1", "x-y");
    a.basis(3);
    due("SPENT among the reductions", dones(a), "3 3 2 3");
    a.basis(1);
    due("SPENT in the first pair", dones(a), "1 1 0 2");
    a.basis(0);
    due("SPENT at once", dones(a), "0 1 0 2");
    a = ideal(3, 0, "x*y", "y*z", "x*z");
    a.basis(100);
    due("the third pair is passed over by an element that divides", dones(a), "0 3 1 3");
    a.clear();
    a.basis(0);
    due("nothing to do", dones(a), "0 0 0 0");
  }

  private static void elementsAndShares() {
    says("promise 16");
    IdealProver a = ideal(2, 0, "x^2+y^2-1", "x-y");
    due("no basis", a.element(0, 99), -3);
    due("no basis", a.share(0, 0, 99), -3);
    a.basis(1000);
    due("element", a.element(0, 39), 2);
    due("element", Words.get(a, 39), "y^2-1/2");
    due("none", a.element(2, 0), -1);
    due("none", a.element(-1, 0), -1);
    due("no place", a.element(0, 40), -1);
    due("no place", a.element(0, -1), -1);
    a.zero(39);
    a.element(0, 39);
    due("the element is not the place's", Words.get(a, 39), "y^2-1/2");
    says("promise 17");
    due("share", a.share(0, 0, 0), 1);
    due("share", Words.get(a, 0), "1/2");
    due("share", a.share(0, 1, 0), 2);
    due("share", Words.get(a, 0), "-1/2*x-1/2*y");
    due("share", a.share(1, 0, 0), 0);
    due("share", a.share(1, 1, 0), 1);
    due("no element", a.share(2, 0, 0), -1);
    due("no element", a.share(-1, 0, 0), -1);
    due("no generator", a.share(0, 2, 0), -1);
    due("no generator", a.share(0, -1, 0), -1);
    due("no place", a.share(0, 0, 40), -1);
    due("no place", a.share(0, 0, -1), -1);
  }

  private static void divisions() {
    says("promise 18");
    IdealProver a = ideal(2, 0, "x^2+y^2-1", "x-y");
    Words.put(a, 0, "x^3+x*y+1");
    due("no place", a.divide(40, 0), -1);
    due("no place", a.divide(0, -1), -1);
    due("no basis", a.divide(0, 0), -3);
    a.basis(1000);
    due("no place", a.divide(-1, 0), -1);
    due("not in the ideal", a.divide(0, 1), 0);
    due("rest", Words.get(a, 1), "1/2*y+3/2");
    Words.put(a, 0, "x^4-1/4");
    due("in the ideal", a.divide(0, 0), 1);
    due("r is p", a.size(0), 0);
    due("0", a.divide(0, 1), 1);
    a = ideal(2, 0, "x-y^16");
    a.basis(10);
    Words.put(a, 0, "x^2");
    Words.put(a, 1, "x+7");
    due("an exponent of 32", a.divide(0, 1), -7);
    due("unchanged", Words.get(a, 1), "x+7");
    a = ideal(2, 0, "x-1");
    a.basis(10);
    grid(a, 0, 11, 9);
    due("a quotient of 90 terms", a.divide(0, 1), 0);
    due("rest", a.size(1), 9);
    Words.put(a, 0, "x^12*y^29");
    for (int i = 0; i < 9; i++) a.term(0, 1, 1, 12 | i << 8);
    due("a quotient of 101 terms", a.divide(0, 1), -7);
    due("unchanged", a.size(1), 9);
  }

  private static void certificates() {
    says("promise 19");
    IdealProver a = ideal(2, 0, "x^2+y^2-1", "x-y");
    due("no basis", a.certificate(9, 99), -3);
    a.basis(1000);
    due("no divide", a.certificate(0, 0), -3);
    Words.put(a, 0, "2*y^2-1");
    Words.put(a, 1, "y");
    due("divide", a.divide(0, 5), 1);
    due("certificate", a.certificate(0, 2), 1);
    due("certificate", Words.get(a, 2), "1");
    due("certificate", a.certificate(1, 3), 2);
    due("certificate", Words.get(a, 3), "-x-y");
    due("no generator", a.certificate(2, 3), -1);
    due("no generator", a.certificate(-1, 3), -1);
    due("no place", a.certificate(0, 40), -1);
    due("refused", a.divide(40, 0), -1);
    a.radical(0, 1000);
    a.basis(-2);
    due("still", a.certificate(1, 3), 2);
    due("divide", a.divide(1, 5), 0);
    due("the latest answered 0", a.certificate(0, 2), -3);
    due("divide", a.divide(0, 5), 1);
    due("again", a.certificate(0, 2), 1);
    a.basis(1000);
    due("another basis", a.certificate(0, 2), -3);
    proofs();
    fullCertificates();
  }

  private static void proofs() {
    String[][] ideals = {
      {"x^2+y+z-1", "x+y^2+z-1", "x+y+z^2-1"},
      {"x*y-2*z", "0", "y*z-3*x", "x^2-1/2*y"},
      {"x+y+z", "x*y+y*z+z*x", "x*y*z-1"},
    };
    for (String[] row : ideals) {
      for (int kind = 0; kind < 3; kind++) {
        IdealProver a = ideal(3, kind, row);
        for (int k = 0; k < row.length; k++) Words.put(a, k, row[k]);
        due("basis of " + row[0], a.basis(20000) > 0 ? 1 : 0, 1);
        due("check", a.check(), 1);
        Words.put(a, 10, "x-2*y+1/3");
        a.times(0, 10, 11);
        Words.put(a, 10, "z^2-y");
        a.times(2, 10, 12);
        a.plus(11, 12, 13);
        due("divide", a.divide(13, 14), 1);
        a.zero(15);
        for (int k = 0; k < row.length; k++) {
          due("certificate", a.certificate(k, 16) >= 0 ? 1 : 0, 1);
          a.times(16, k, 17);
          a.plus(15, 17, 15);
        }
        due("the sum of the products", a.same(15, 13), 1);
      }
    }
  }

  private static void fullCertificates() {
    IdealProver a = ideal(1, 0, "1/1000000*x");
    a.basis(10);
    Words.put(a, 0, "999999999*x");
    Words.put(a, 1, "7");
    due("in the ideal", a.divide(0, 2), 1);
    due("too large", a.certificate(0, 1), -7);
    due("unchanged", Words.get(a, 1), "7");
    a = ideal(2, 0, "x-y^16");
    a.basis(10);
    Words.put(a, 0, "x^2");
    Words.put(a, 1, "x-y^16");
    due("divide", a.divide(1, 2), 1);
    due("FULL", a.divide(0, 2), -7);
    due("of the latest that was not refused", a.certificate(0, 3), 1);
    due("of the latest that was not refused", Words.get(a, 3), "1");
  }

  private static void checks() {
    says("promise 20");
    IdealProver a = ideal(2, 0, "x^2+y^2-1", "x-y");
    due("no basis", a.check(), -3);
    a.basis(1000);
    due("check", a.check(), 1);
    a.clear();
    due("no basis", a.check(), -3);
    a.basis(0);
    due("of none", a.check(), 1);
    a = ideal(3, 0, "x^8*z^7", "x^2*z^8+1");
    due("basis", a.basis(20000), 1);
    due("cofactors and element fit, but not a product on the way", a.check(), -7);
    a = ideal(1, 0, "-22*x^4-21", "14*x^4-22*x^2-12*x");
    due("basis", a.basis(20000), 1);
    due("FULL when the cofactor's terms are the u", a.check(), -7);
    a = ideal(1, 0, "-23*x^4-18*x^2+5*x", "18*x^4+5");
    due("basis", a.basis(20000), 1);
    due("FULL only if the generator's terms were the u", a.check(), 1);
  }

  private static void radicals() {
    says("promise 21");
    IdealProver a = ideal(2, 0, "x^3", "y^2-x");
    Words.put(a, 0, "y");
    Words.put(a, 1, "y-1");
    Words.put(a, 2, "x+y");
    due("no basis is needed", a.radical(0, 20000), 1);
    due("not", a.radical(1, 20000), 0);
    due("a sum", a.radical(2, 20000), 1);
    due("0", a.radical(9, 20000), 1);
    due("no place, steps wrong", a.radical(40, -1), -1);
    due("no place", a.radical(-1, 1), -1);
    due("steps", a.radical(0, -1), -2);
    due("steps", a.radical(0, 20001), -2);
    due("SPENT", a.radical(0, 1), -6);
    IdealProver four = ideal(4, 0, "x");
    due("four, steps wrong", four.radical(0, 20001), -2);
    due("four", four.radical(0, 0), -3);
    a.basis(1000);
    Words.put(a, 3, "x^3");
    a.divide(3, 4);
    String before = elements(a);
    due("radical", a.radical(0, 20000), 1);
    due("SPENT", a.radical(0, 0), -6);
    due("the basis stays", elements(a), before);
    due("the certificate stays", a.certificate(0, 5), 1);
    due("generators stay", a.clear(), 2);
    due("of no generators", a.radical(1, 100), 0);
    fullRadicals();
  }

  private static void fullRadicals() {
    IdealProver a = ideal(2, 0);
    grid(a, 0, 10, 10);
    due("101 terms", a.radical(0, 1000), -7);
    a.term(0, -1, 1, 0);
    due("100 terms", a.radical(0, 1000), 0);
    a = ideal(1, 0, "x-1000", "0", "0", "0", "0", "0", "0", "0");
    Words.put(a, 0, "x^2-1000000");
    due("behind eight", a.radical(0, 1000), 1);
    Words.put(a, 0, "x^4-1");
    due("parts too large", a.radical(0, 1000), -7);
    a = ideal(2, 0, "22*y^7", "805*y^2+27");
    Words.put(a, 0, "x");
    due("with cofactors it is FULL", a.basis(1000), -7);
    due("without cofactors it is not", a.radical(0, 1000), 1);
  }

  private static void freeOnes() {
    says("promise 22");
    IdealProver a = ideal(3, 0, "x^2+y+z-1", "x+y^2+z-1", "x+y+z^2-1");
    due("no basis, k wrong", a.free(4), -2);
    due("k", a.free(-1), -2);
    due("no basis", a.free(0), -3);
    due("no basis", a.free(3), -3);
    a.basis(20000);
    due("free(0)", a.free(0), 4);
    due("free(1)", a.free(1), 3);
    due("free(2)", a.free(2), 1);
    due("free(3)", a.free(3), 0);
    due("free(4)", a.free(4), -2);
    a = ideal(2, 1, "y^2-x");
    a.basis(20);
    due("a later term has it", a.free(1), 0);
    a = ideal(2, 1, "x", "x-1");
    a.basis(20);
    due("1 has none", a.free(2), 1);
  }

  private static void staircases() {
    says("promise 23");
    IdealProver a = ideal(3, 0, "x^2+y+z-1", "x+y^2+z-1", "x+y+z^2-1");
    due("no basis", a.stairs(), -3);
    a.basis(20000);
    due("eight", a.stairs(), 8);
    a.order(1);
    a.basis(20000);
    due("eight in any order", a.stairs(), 8);
    a = ideal(4, 1, "x^30", "y^30", "z^30", "w^30");
    a.basis(20000);
    due("810000", a.stairs(), 810000);
    a = ideal(4, 1, "x^3", "y^4", "z^5", "w^2", "x*y", "z*w", "x^2*w");
    a.basis(20000);
    due("with corners", a.stairs(), 6 * 6 - 1);
    a = ideal(4, 1, "x", "y", "z");
    a.basis(20000);
    due("no end", a.stairs(), -8);
    a = ideal(2, 1, "x*y");
    a.basis(20000);
    due("no end", a.stairs(), -8);
    a = ideal(2, 1, "x^2", "x*y");
    a.basis(20000);
    due("no end", a.stairs(), -8);
    a = ideal(1, 1, "x^7-x");
    a.basis(20000);
    due("seven", a.stairs(), 7);
    a = ideal(3, 1, "5");
    a.basis(20000);
    due("none", a.stairs(), 0);
    a = ideal(1, 1, "0");
    a.basis(20000);
    due("of 0", a.stairs(), -8);
  }

  public static void main(String[] args) {
    newObject();
    numberOfVariables();
    orders();
    terms();
    zeroAndSize();
    telling();
    sums();
    products();
    sameness();
    points();
    generators();
    bases();
    deeds();
    elementsAndShares();
    divisions();
    certificates();
    checks();
    radicals();
    freeOnes();
    staircases();
    end();
  }
}
