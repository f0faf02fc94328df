/** The boundary cases that the document's section "Terms" names for polynomials, a method for each sentence. */
public final class TermsEdgesTest extends Trial {
  private static final int MOST = 1000000000;
  private static final String[] LETTERS = {"x", "y", "z", "w"};

  private static void variables() {
    says("VARIABLES are numbered 0, 1, .. (n of them, 1 to 4)");
    for (int n = 1; n <= 4; n++) {
      IdealProver a = new IdealProver(n);
      due("variables of " + n, a.variables(), n);
      for (int v = 0; v < 4; v++) due("a term with variable " + v + " of " + n, a.term(v, 1, 1, 1 << 8 * v), v < n ? 1 : -2);
    }
  }

  private static void exponents() {
    says("A MONOMIAL has an exponent, 0 .. 30, of each");
    for (int v = 0; v < 4; v++) {
      IdealProver a = new IdealProver(4);
      due("exponent 0", a.term(0, 1, 1, 0), 1);
      due("exponent 30", a.term(1, 1, 1, 30 << 8 * v), 1);
      due("exponent 30 told", a.told(1, 0, 2), 30 << 8 * v);
      for (int e : new int[] {31, 32, 63, 64, 127, 128, 129, 158, 254, 255}) due("exponent " + e, a.term(2, 1, 1, e << 8 * v), -2);
      due("nothing came", a.size(2), 0);
    }
    due("30 of all", new IdealProver(4).term(0, 1, 1, 0x1E1E1E1E), 1);
  }

  private static void lowestTerms() {
    says("A FRACTION is in lowest terms, its denominator above 0");
    int[][] cases = {
      {2, 4, 1, 2}, {-2, 4, -1, 2}, {2, -4, -1, 2}, {-2, -4, 1, 2}, {MOST, MOST, 1, 1}, {-MOST, MOST, -1, 1},
      {MOST, -MOST, -1, 1}, {-MOST, -MOST, 1, 1}, {MOST, -1, -MOST, 1}, {1, -MOST, -1, MOST}, {7, 7, 1, 1},
      {999999999, MOST, 999999999, MOST}, {MOST, 999999999, MOST, 999999999}, {600000000, 900000000, 2, 3},
    };
    for (int[] c : cases) {
      IdealProver a = new IdealProver(1);
      due("term " + c[0] + " by " + c[1], a.term(0, c[0], c[1], 0), 1);
      due("numerator", a.told(0, 0, 0), c[2]);
      due("denominator", a.told(0, 0, 1), c[3]);
    }
  }

  private static void parts() {
    says("neither part has a size above 1000000000");
    IdealProver a = new IdealProver(1);
    a.term(0, 999999999, 1, 0);
    due("a numerator of 1000000000", a.term(0, 1, 1, 0), 1);
    due("a numerator of 1000000001", a.term(0, 1, 1, 0), -7);
    due("not by a fraction either", a.term(0, 1, 2, 0), -7);
    due("as before", Words.get(a, 0), "1000000000");
    a.term(1, -999999999, 1, 0);
    due("a numerator of -1000000000", a.term(1, -1, 1, 0), 1);
    due("a numerator of -1000000001", a.term(1, -1, 1, 0), -7);
    due("as before", Words.get(a, 1), "-1000000000");
    a.term(2, 1, 500000000, 0);
    due("a denominator of 1000000000", a.term(2, 1, MOST, 0), 1);
    due("a denominator of 1000000000", Words.get(a, 2), "3/1000000000");
    due("a denominator of 3000000000", a.term(2, 1, 3, 0), -7);
    a.term(3, 1, 1000, 0);
    due("a denominator of 1001000", a.term(3, 1, 1001, 0), 1);
    due("a denominator of 1001 * 1000 * 1009", a.term(3, 1, 1009, 0), -7);
    due("a denominator of 1001 * 1000 * 997", a.term(3, 1, 997, 0), 1);
    due("as due", Words.get(a, 3), "2995997/997997000");
  }

  private static void noTermIsZero() {
    says("A TERM is a FRACTION that is not 0");
    IdealProver a = new IdealProver(2);
    due("nothing comes", a.term(0, 0, 5, 1), 0);
    due("nothing comes", a.term(0, 0, -MOST, 1), 0);
    a.term(0, MOST, 999999999, 1);
    due("it goes", a.term(0, -MOST, 999999999, 1), 0);
    Words.put(a, 1, "x*y-1");
    Words.put(a, 2, "-x*y+1");
    due("a sum of 0", a.plus(1, 2, 3), 0);
    due("a product of 0", a.times(1, 3, 4), 0);
    due("a product of 0", a.times(3, 1, 4), 0);
  }

  private static void hundredTerms() {
    says("A POLYNOMIAL has at most 100 TERMS");
    IdealProver a = new IdealProver(2);
    grid(a, 0, 10, 10);
    due("100", a.size(0), 100);
    due("the last", a.told(0, 99, 2), 0);
    due("no 101st is told", a.told(0, 100, 2), -1);
    due("a 101st in front", a.term(0, 1, 1, 30), -7);
    due("a 101st in the middle", a.term(0, 1, 1, 5 | 20 << 8), -7);
    due("a 101st behind", a.term(0, 1, 1, 10 << 8), -7);
    due("still 100", a.size(0), 100);
    due("one that is there", a.term(0, 1, 1, 5 | 5 << 8), 100);
    due("one that goes", a.term(0, -1, 1, 0), 99);
    due("a 100th", a.term(0, 1, 1, 10 << 8), 100);
    due("a 101st", a.term(0, 1, 1, 0), -7);
  }

  private static void noTwoTheSame() {
    says("no two with the same MONOMIAL, in ORDER from the greatest on; 0 has none");
    IdealProver a = new IdealProver(2);
    due("0", a.size(0), 0);
    due("0", a.told(0, 0, 0), -1);
    due("first", a.term(0, 1, 1, 0x0202), 1);
    due("behind", a.term(0, 1, 1, 0x0102), 2);
    due("in front", a.term(0, 1, 1, 0x0003), 3);
    due("between", a.term(0, 1, 1, 0x0302), 4);
    due("the same as the first", a.term(0, 1, 1, 0x0003), 4);
    due("the same as the last", a.term(0, 1, 1, 0x0102), 4);
    due("told", Words.get(a, 0), "2*x^3+x^2*y^3+x^2*y^2+2*x^2*y");
    due("the first goes", a.term(0, -2, 1, 0x0003), 3);
    due("the last goes", a.term(0, -2, 1, 0x0102), 2);
    due("told", Words.get(a, 0), "x^2*y^3+x^2*y^2");
  }

  private static int exponent(int powers, int v) {
    return powers >>> 8 * v & 255;
  }

  /** The document's words for kind 1, from some variable on: the sum; else the last in which they differ. */
  private static boolean greaterBySum(int a, int b) {
    int sumA = 0;
    int sumB = 0;
    for (int v = 0; v < 4; v++) {
      sumA += exponent(a, v);
      sumB += exponent(b, v);
    }
    if (sumA != sumB) return sumA > sumB;
    for (int v = 3; v >= 0; v--) if (exponent(a, v) != exponent(b, v)) return exponent(a, v) < exponent(b, v);
    return false;
  }

  private static boolean greater(int kind, int a, int b) {
    if (kind == 1) return greaterBySum(a, b);
    if (kind == 2) return exponent(a, 0) != exponent(b, 0) ? exponent(a, 0) > exponent(b, 0) : greaterBySum(a, b);
    for (int v = 0; v < 4; v++) if (exponent(a, v) != exponent(b, v)) return exponent(a, v) > exponent(b, v);
    return false;
  }

  /** Puts all monomials with these exponents alone into place 0, in an order far from any ORDER. */
  private static int scatter(IdealProver a, int n, int... exponents) {
    int count = 1;
    for (int v = 0; v < n; v++) count *= exponents.length;
    for (int turn = 0; turn < count; turn++) {
      int powers = 0;
      int rest = (turn * 37 + 11) % count;
      for (int v = 0; v < n; v++) {
        powers |= exponents[rest % exponents.length] << 8 * v;
        rest /= exponents.length;
      }
      a.term(0, 1, 1, powers);
    }
    return count;
  }

  private static void isInOrder(IdealProver a, int kind, int count) {
    due("terms", a.size(0), count);
    for (int i = 1; i < count; i++) {
      int before = a.told(0, i - 1, 2);
      int next = a.told(0, i, 2);
      due("kind " + kind + ", " + Integer.toHexString(before) + " is greater than " + Integer.toHexString(next), greater(kind, before, next) ? 1 : 0, 1);
    }
  }

  private static void theOrder() {
    says("THE ORDER: kind 0: .. 1: .. 2: ..");
    int[][] rows = {{0, 1, 30}, {0, 29, 30}, {7, 8, 15}, {0, 15, 16}};
    for (int[] row : rows) {
      for (int n = 1; n <= 4; n++) {
        for (int kind = 0; kind < 3; kind++) {
          IdealProver a = new IdealProver(n);
          a.order(kind);
          isInOrder(a, kind, scatter(a, n, row));
        }
      }
    }
  }

  private static void toldAnew() {
    says("POLYNOMIALS are told anew when it changes");
    for (int from = 0; from < 3; from++) {
      for (int to = 0; to < 3; to++) {
        IdealProver a = new IdealProver(4);
        a.order(from);
        int count = scatter(a, 4, 0, 2, 5);
        due("order(" + to + ")", a.order(to), from);
        isInOrder(a, to, count);
        due("one that is there is found", a.term(0, 1, 1, 0x05020005), count);
        due("one that goes is found", a.term(0, -1, 1, 0x02050200), count - 1);
      }
    }
    IdealProver a = ideal(2, 0, "x+y^2");
    a.basis(10);
    due("kind 0", elements(a), "x+y^2");
    a.order(1);
    a.basis(10);
    due("a GENERATOR too", elements(a), "y^2+x");
    a.order(2);
    a.basis(10);
    due("a GENERATOR too", elements(a), "x+y^2");
  }

  private static void aTermComes() {
    says("A TERM COMES to a POLYNOMIAL: .. added ..; it goes if that is 0 then; without one it is a TERM of its own");
    IdealProver a = new IdealProver(1);
    due("its own", a.term(0, 1, 3, 2), 1);
    due("added", a.term(0, 1, 6, 2), 1);
    due("added", Words.get(a, 0), "1/2*x^2");
    due("its own", a.term(0, 5, 1, 1), 2);
    due("goes", a.term(0, -2, 4, 2), 1);
    due("others stay", Words.get(a, 0), "5*x");
    due("its own again", a.term(0, 1, 7, 2), 2);
    due("its own again", Words.get(a, 0), "1/7*x^2+5*x");
  }

  private static void plusInOrder() {
    says("f PLUS u g (u a TERM): for each TERM of g in ORDER its product with u COMES to f");
    for (int kind = 0; kind < 3; kind++) {
      IdealProver a = new IdealProver(2);
      a.order(kind);
      grid(a, 0, 10, 10);
      Words.put(a, 1, "y^20-x");
      due("kind " + kind + ": one goes before the 101st comes, or behind it", a.plus(0, 1, 2), kind == 1 ? -7 : 100);
      Words.put(a, 1, "y^20-1");
      due("kind " + kind + ": the one that would go comes last", a.plus(0, 1, 2), -7);
      due("kind " + kind + ": nor is it in time the other way round", a.plus(1, 0, 2), -7);
      Words.put(a, 1, "y^20-x^9*y^9");
      due("kind " + kind + ": the greatest one of the row is in time", a.plus(1, 0, 2), 100);
    }
  }

  private static void timesInOrder() {
    says("f TIMES g: 0 PLUS u g for each TERM u of f in ORDER, one behind the other");
    IdealProver a = new IdealProver(2);
    grid(a, 0, 10, 10);
    Words.put(a, 1, "x-y");
    due("100 terms, and a 101st before others go", a.times(1, 0, 2), -7);
    due("each u takes away what the one before brought", a.times(0, 1, 2), 38);
    Words.put(a, 3, "40000*x+1");
    Words.put(a, 4, "30000*x-30000");
    due("a product too large, whichever is first", a.times(3, 4, 5), -7);
    due("a product too large, whichever is first", a.times(4, 3, 5), -7);
    Words.put(a, 3, "25000*x+25000");
    Words.put(a, 4, "40000*x-40000");
    due("1000000000 of both signs", a.times(3, 4, 5), 2);
    due("1000000000 of both signs", Words.get(a, 5), "1000000000*x^2-1000000000");
  }

  private static void exactly() {
    says("A sum and a product of two FRACTIONS are reckoned exactly, and then in lowest terms");
    IdealProver a = new IdealProver(1);
    Words.put(a, 0, "1000000000/999999999");
    Words.put(a, 1, "999999999/1000000000");
    due("a product of 10^18 by 10^18", a.times(0, 1, 2), 1);
    due("1", Words.get(a, 2), "1");
    Words.put(a, 0, "-1000000000/999999999");
    due("of -10^18", a.times(0, 1, 2), 1);
    due("-1", Words.get(a, 2), "-1");
    Words.put(a, 0, "1000000000/999999998");
    due("a sum of 2 * 10^18", a.plus(0, 0, 2), 1);
    due("lowest terms", Words.get(a, 2), "1000000000/499999999");
    Words.put(a, 0, "-1000000000/999999998");
    due("a sum of -2 * 10^18", a.plus(0, 0, 2), 1);
    due("lowest terms", Words.get(a, 2), "-1000000000/499999999");
    Words.put(a, 0, "999999999/1000000000");
    Words.put(a, 1, "1/1000000000");
    due("a sum", a.plus(0, 1, 2), 1);
    due("1", Words.get(a, 2), "1");
    Words.put(a, 1, "-999999998/999999999");
    due("the least difference, too small for a FRACTION", a.plus(0, 1, 2), -7);
  }

  private static void fullFractions() {
    says("FULL is what would need a FRACTION with a part above 1000000000 (in lowest terms; each sum and product for itself)");
    IdealProver a = new IdealProver(2);
    Words.put(a, 0, "31622*x");
    due("31622 * 31623", a.times(0, number(a, "31623"), 2), 1);
    due("31623 * 31623", a.times(number(a, "31623"), 30, 2), -7);
    due("-31623 * 31623", a.times(number(a, "-31623"), number(a, "31623"), 2), -7);
    due("1/31622 * 1/31623", a.times(number(a, "1/31622"), number(a, "1/31623"), 2), 1);
    due("1/31623 * 1/31623", a.times(number(a, "1/31623"), number(a, "1/31623"), 2), -7);
    due("1000000000 * 1", a.times(number(a, "1000000000"), number(a, "1"), 2), 1);
    due("1/1000000000 * 1/2", a.times(number(a, "1/1000000000"), number(a, "1/2"), 2), -7);
    due("2/1000000000 * 1/2", a.times(number(a, "1/500000000"), number(a, "1/2"), 2), 1);
    due("1/2 * 2000000000/3", a.times(number(a, "1000000000/3"), number(a, "2"), 2), -7);
    Words.put(a, 3, "x+999999999");
    Words.put(a, 4, "1");
    due("a sum just so", a.plus(3, 4, 5), 2);
    due("a sum too large", a.plus(5, 4, 6), -7);
    Words.put(a, 3, "40000*x+40000");
    Words.put(a, 4, "x-1");
    due("each fits", a.times(3, 4, 5), 2);
    Words.put(a, 3, "1000000000*x+1000000000");
    due("a sum that is 0 fits", a.times(3, 4, 5), 2);
    Words.put(a, 4, "x+1");
    due("a sum of 2000000000, of two products that fit", a.times(3, 4, 5), -7);
    Words.put(a, 3, "x*y+x");
    Words.put(a, 4, "1000000000*x-y");
    due("different monomials do not add up", a.times(3, 4, 5), 4);
  }

  private static int latest = 29;

  /** A place with this polynomial: 30 and 31 by turns. */
  private static int number(IdealProver a, String words) {
    latest = latest == 30 ? 31 : 30;
    Words.put(a, latest, words);
    return latest;
  }

  private static void fullExponents() {
    says("FULL is what would need .. an exponent above 30 (that first, of one product)");
    for (String v : LETTERS) {
      IdealProver a = new IdealProver(4);
      Words.put(a, 0, v + "^15");
      Words.put(a, 1, v + "^16");
      Words.put(a, 2, v + "^30");
      Words.put(a, 3, v);
      due(v + "^30", a.times(0, 0, 9), 1);
      due(v + "^30", Words.get(a, 9), v + "^30");
      due(v + "^31", a.times(0, 1, 9), -7);
      due(v + "^31", a.times(2, 3, 9), -7);
      due(v + "^32", a.times(1, 1, 9), -7);
      due(v + "^60", a.times(2, 2, 9), -7);
      due("as before", Words.get(a, 9), v + "^30");
      due("by 1", a.times(2, number(a, "1"), 9), 1);
    }
    IdealProver a = new IdealProver(2);
    Words.put(a, 0, "31623*x^16+1");
    due("both the exponent and the FRACTION", a.times(0, 0, 1), -7);
    Words.put(a, 0, "x^16-y");
    Words.put(a, 1, "x^14+1");
    due("30 and no more", a.times(0, 1, 2), 4);
    Words.put(a, 1, "x^14+x^15");
    due("one of the products", a.times(0, 1, 2), -7);
  }

  private static void fullTerms() {
    says("FULL is what would need .. a 101st TERM in a POLYNOMIAL");
    IdealProver a = new IdealProver(2);
    grid(a, 0, 10, 1);
    grid(a, 1, 1, 10);
    due("10 by 10", a.times(0, 1, 2), 100);
    a.term(0, 1, 1, 10);
    due("11 by 10", a.times(0, 1, 3), -7);
    due("10 by 11", a.times(1, 0, 3), -7);
    Words.put(a, 4, "x^11");
    due("100 and 1", a.plus(2, 4, 5), -7);
    due("1 and 100", a.plus(4, 2, 5), -7);
    Words.put(a, 4, "-x^9*y^9");
    due("100 less 1", a.plus(2, 4, 5), 99);
    Words.put(a, 4, "y^11");
    due("99 and 1", a.plus(5, 4, 5), 100);
    due("100 and 100 of the same", a.plus(5, 5, 5), 100);
  }

  private static void places() {
    says("PLACES 0 .. 39 have POLYNOMIALS, 0 at first");
    IdealProver a = new IdealProver(1);
    for (int p = 0; p < 40; p++) due("size(" + p + ")", a.size(p), 0);
    for (int p = 0; p < 40; p++) due("term(" + p + ")", a.term(p, p + 1, 1, p % 31), 1);
    for (int p = 0; p < 40; p++) due("told(" + p + ")", a.told(p, 0, 0), p + 1);
    due("size(-1)", a.size(-1), -1);
    due("size(40)", a.size(40), -1);
  }

  public static void main(String[] args) {
    variables();
    exponents();
    lowestTerms();
    parts();
    noTermIsZero();
    hundredTerms();
    noTwoTheSame();
    theOrder();
    toldAnew();
    aTermComes();
    plusInOrder();
    timesInOrder();
    exactly();
    fullFractions();
    fullExponents();
    fullTerms();
    places();
    end();
  }
}
