import java.lang.management.ManagementFactory;

/** All calls of a run live in one room: the constructor makes little, and no later call makes anything. */
public final class RoomTest {
  /** The machine's own doings may need a little; a row of one polynomial a call would need far more. */
  private static final long A_LITTLE = 20000;
  private static final long CONSTRUCTOR = 4000000;

  private static long made() {
    return ((com.sun.management.ThreadMXBean) ManagementFactory.getThreadMXBean()).getCurrentThreadAllocatedBytes();
  }

  private static void work(IdealProver a, int kind) {
    a.order(kind);
    a.clear();
    for (int p = 0; p < 3; p++) a.generator(p);
    a.basis(20000);
    a.check();
    a.stairs();
    a.free(1);
    a.divide(3, 4);
    a.certificate(0, 5);
    a.radical(0, 20000);
    a.radical(3, 20000);
    a.times(0, 1, 6);
    a.plus(6, 2, 6);
    a.same(6, 2);
    a.vanishes(6, 1, 2, 3, 4);
    a.element(0, 7);
    a.share(0, 0, 8);
    a.told(6, 0, 0);
    a.term(9, 1, 3, 5);
    a.zero(9);
  }

  private static IdealProver fresh() {
    IdealProver a = new IdealProver(3);
    Words.put(a, 0, "x^2+y+z-1");
    Words.put(a, 1, "x+y^2+z-1");
    Words.put(a, 2, "x+y+z^2-1");
    Words.put(a, 3, "x^3*y^2+2*z-1");
    return a;
  }

  public static void main(String[] args) {
    for (int i = 0; i < 30; i++) work(fresh(), i % 3);
    long before = made();
    IdealProver a = new IdealProver(4);
    long constructor = made() - before;
    a.variables();
    a = fresh();
    before = made();
    for (int i = 0; i < 20; i++) work(a, i % 3);
    long calls = made() - before;
    boolean small = constructor < CONSTRUCTOR && calls < A_LITTLE;
    System.out.println("the constructor made " + constructor + " bytes, 400 calls " + calls + (small ? "" : ": too much"));
    if (!small) System.exit(1);
  }
}
