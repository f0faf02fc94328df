import java.util.ArrayList;
import java.util.List;

/** Long runs of calls, always the same ones, each answer compared with that of the oracle. */
public final class OracleTest {
  private static final int RUNS = 1500;
  private static final int CALLS = 480;
  private static int wrong = 0;
  private static final int[][] seen = new int[24][16];

  private long seed;
  private final IdealProver mine;
  private final Oracle other;
  private final int n;
  private final int run;
  private final int degree;
  private final int size;
  private final boolean large;
  private int calls = 0;
  private final List<String> log = new ArrayList<>();

  private OracleTest(int run) {
    this.run = run;
    seed = run * 7919L + 17;
    for (int i = 0; i < 5; i++) below(2);
    n = 1 + below(4);
    mine = new IdealProver(n);
    other = new Oracle(n);
    degree = new int[] {1, 2, 2, 3, 4, 8, 30}[below(7)];
    size = new int[] {1, 2, 2, 3, 3, 4, 6, 30}[below(8)];
    large = below(6) == 0;
  }

  /** A row of numbers that looks like chance and is the same each time. */
  private int below(int bound) {
    seed = seed * 6364136223846793005L + 1442695040888963407L;
    return (int) ((seed >>> 33) % bound);
  }

  private int call(int which, String name, int got, int due) {
    calls++;
    int slot = due < 0 && due >= -8 ? -due : due == 0 ? 9 : due == 1 ? 10 : 11;
    seen[which][slot]++;
    String line = name + " answered " + got + ", due is " + due;
    log.add(line);
    if (got != due) {
      wrong++;
      System.out.println("run " + run + " (" + n + " variables), call " + calls + ": " + line);
      if (wrong == 1) for (String l : log.subList(Math.max(0, log.size() - 60), log.size())) System.out.println("    " + l);
    }
    return due;
  }

  private int coefficient() {
    if (large && below(3) == 0) return (below(2) == 0 ? -1 : 1) * (1 + below(1000000000));
    return below(7) - 3;
  }

  private int powers() {
    int p = 0;
    for (int v = 0; v < n; v++) p |= (below(3) == 0 ? 0 : below(degree + 1)) << 8 * v;
    return p;
  }

  private int spot() { return below(40) == 0 ? new int[] {-1, 40, Integer.MIN_VALUE, Integer.MAX_VALUE}[below(4)] : below(10); }

  private void tellAll(int p) {
    int count = call(5, "size(" + p + ")", mine.size(p), other.size(p));
    for (int i = 0; i < Math.min(count, 12) && calls < CALLS; i++) {
      for (int w = 0; w < 3; w++) call(6, "told(" + p + ", " + i + ", " + w + ")", mine.told(p, i, w), other.told(p, i, w));
    }
  }

  private void fill(int p) {
    call(4, "zero(" + p + ")", mine.zero(p), other.zero(p));
    int terms = 1 + below(size);
    for (int i = 0; i < terms && calls < CALLS; i++) oneTerm(p);
  }

  private void oneTerm(int p) {
    int over = coefficient();
    int under = below(4) == 0 ? (large ? coefficient() : below(5) - 1) : 1;
    int m = powers();
    if (below(60) == 0) m = new int[] {31, 255, 31 << 8 * (n - 1), -1, Integer.MIN_VALUE, n < 4 ? 1 << 8 * n : 0}[below(6)];
    if (below(60) == 0) over = new int[] {0, 1000000000, 1000000001, -1000000001, Integer.MIN_VALUE, Integer.MAX_VALUE, -1000000000}[below(7)];
    if (below(60) == 0) under = new int[] {0, 1000000000, 1000000001, -1000000001, Integer.MIN_VALUE, Integer.MAX_VALUE, -1}[below(7)];
    call(3, "term(" + p + ", " + over + ", " + under + ", " + m + ")", mine.term(p, over, under, m), other.term(p, over, under, m));
  }

  private void go() {
    while (calls < CALLS - 12) {
      switch (below(24)) {
        case 0: { int k = below(15) == 0 ? below(9) - 3 : below(3); call(2, "order(" + k + ")", mine.order(k), other.order(k)); break; }
        case 1: case 2: fill(below(10)); break;
        case 3: { int p = spot(); oneTerm(p); break; }
        case 4: { int p = spot(); call(4, "zero(" + p + ")", mine.zero(p), other.zero(p)); break; }
        case 5: { int p = spot(); call(5, "size(" + p + ")", mine.size(p), other.size(p)); break; }
        case 6: { int p = spot(); int i = below(6) - 1; int w = below(5) - 1; call(6, "told(" + p + ", " + i + ", " + w + ")", mine.told(p, i, w), other.told(p, i, w)); break; }
        case 7: { int p = spot(); int q = spot(); int r = spot(); call(7, "plus(" + p + ", " + q + ", " + r + ")", mine.plus(p, q, r), other.plus(p, q, r)); break; }
        case 8: { int p = spot(); int q = spot(); int r = spot(); call(8, "times(" + p + ", " + q + ", " + r + ")", mine.times(p, q, r), other.times(p, q, r)); break; }
        case 9: { int p = spot(); int q = below(3) == 0 ? p : spot(); call(9, "same(" + p + ", " + q + ")", mine.same(p, q), other.same(p, q)); break; }
        case 10: point(); break;
        case 11: case 12: { int p = spot(); call(11, "generator(" + p + ")", mine.generator(p), other.generator(p)); break; }
        case 13: if (below(2) == 0) call(12, "clear()", mine.clear(), other.clear()); break;
        case 14: case 15: case 16: wholeBasis(); break;
        case 17: { int w = below(7) - 1; call(14, "done(" + w + ")", mine.done(w), other.done(w)); break; }
        case 18: { int i = below(5) - 1; int r = spot(); call(15, "element(" + i + ", " + r + ")", mine.element(i, r), other.element(i, r)); break; }
        case 19: { int i = below(5) - 1; int k = below(5) - 1; int r = spot(); call(16, "share(" + i + ", " + k + ", " + r + ")", mine.share(i, k, r), other.share(i, k, r)); break; }
        case 20: { int p = spot(); int r = spot(); call(17, "divide(" + p + ", " + r + ")", mine.divide(p, r), other.divide(p, r)); break; }
        case 21: { int k = below(5) - 1; int r = spot(); call(18, "certificate(" + k + ", " + r + ")", mine.certificate(k, r), other.certificate(k, r)); break; }
        case 22: { int p = spot(); int s = steps(); call(20, "radical(" + p + ", " + s + ")", mine.radical(p, s), other.radical(p, s)); break; }
        default: small(); break;
      }
    }
  }

  /** Ideals of several generators, one behind the other, each made a basis and asked about all things. */
  private void goDeep() {
    while (calls < CALLS - 90) {
      call(12, "clear()", mine.clear(), other.clear());
      int k = below(3);
      call(2, "order(" + k + ")", mine.order(k), other.order(k));
      int generators = 1 + below(4);
      for (int g = 0; g < generators; g++) {
        fill(g);
        call(11, "generator(" + g + ")", mine.generator(g), other.generator(g));
      }
      wholeBasis();
      if (below(2) == 0) {
        int p = below(5);
        fill(p);
        call(20, "radical(" + p + ", 20000)", mine.radical(p, 20000), other.radical(p, 20000));
        for (int w = 0; w < 4; w++) call(14, "done(" + w + ")", mine.done(w), other.done(w));
        call(18, "certificate(0, 24)", mine.certificate(0, 24), other.certificate(0, 24));
      }
    }
  }

  private int steps() {
    return below(12) == 0 ? new int[] {-1, 20001, 0, 1, Integer.MIN_VALUE, Integer.MAX_VALUE}[below(6)] : below(4) == 0 ? below(30) : 400 + below(1500);
  }

  private void point() {
    int p = spot();
    int[] a = new int[4];
    for (int v = 0; v < 4; v++) a[v] = below(30) == 0 ? new int[] {1000, -1000, 1001, -1001, Integer.MIN_VALUE, Integer.MAX_VALUE}[below(6)] : below(5) - 2;
    call(10, "vanishes(" + p + ", " + a[0] + ", " + a[1] + ", " + a[2] + ", " + a[3] + ")",
        mine.vanishes(p, a[0], a[1], a[2], a[3]), other.vanishes(p, a[0], a[1], a[2], a[3]));
  }

  private void small() {
    int k = below(7) - 1;
    call(21, "free(" + k + ")", mine.free(k), other.free(k));
    call(22, "stairs()", mine.stairs(), other.stairs());
    call(19, "check()", mine.check(), other.check());
  }

  private void wholeBasis() {
    int s = steps();
    int count = call(13, "basis(" + s + ")", mine.basis(s), other.basis(s));
    for (int w = 0; w < 4; w++) call(14, "done(" + w + ")", mine.done(w), other.done(w));
    if (count < 0 || calls > CALLS - 12) return;
    small();
    if (calls > CALLS - 80) return;
    for (int i = 0; i < Math.min(count, 3); i++) {
      call(15, "element(" + i + ", 20)", mine.element(i, 20), other.element(i, 20));
      tellAll(20);
      int k = below(3);
      call(16, "share(" + i + ", " + k + ", 21)", mine.share(i, k, 21), other.share(i, k, 21));
      if (calls < CALLS - 60) tellAll(21);
    }
    proveSomething();
  }

  /** A sum of products of generators lies in the ideal; others may. */
  private void proveSomething() {
    if (calls > CALLS - 60) return;
    int p = below(10);
    int q = below(10);
    call(8, "times(" + p + ", 20, 22)", mine.times(p, 20, 22), other.times(p, 20, 22));
    call(7, "plus(22, 20, 22)", mine.plus(22, 20, 22), other.plus(22, 20, 22));
    call(17, "divide(22, 23)", mine.divide(22, 23), other.divide(22, 23));
    for (int k = 0; k < 3; k++) {
      call(18, "certificate(" + k + ", 24)", mine.certificate(k, 24), other.certificate(k, 24));
    }
    tellAll(24);
    if (below(2) == 0) call(17, "divide(" + q + ", 25)", mine.divide(q, 25), other.divide(q, 25));
  }

  public static void main(String[] args) {
    int runs = args.length > 0 ? Integer.parseInt(args[0]) : RUNS;
    for (int run = 1; run <= runs && wrong < 20; run++) {
      OracleTest test = new OracleTest(run);
      if (run % 2 == 0) test.goDeep(); else test.go();
    }
    String[] names = {"", "", "order", "term", "zero", "size", "told", "plus", "times", "same", "vanishes", "generator", "clear", "basis", "done", "element", "share", "divide", "certificate", "check", "radical", "free", "stairs"};
    if (args.length > 1) for (int i = 2; i < names.length; i++) System.out.println(names[i] + " " + java.util.Arrays.toString(seen[i]));
    System.out.println(wrong == 0 ? "all answers are as due" : wrong + " answers are not as due");
    if (wrong != 0) System.exit(1);
  }
}
