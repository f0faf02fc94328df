import java.math.BigInteger;
import java.util.ArrayList;
import java.util.Arrays;
import java.util.Comparator;
import java.util.List;
import java.util.Map;
import java.util.TreeMap;

/** The document once more, written with the Java library and with no thought for speed or room. */
final class Oracle {
  static final class Full extends RuntimeException { private static final long serialVersionUID = 1L; }
  static final class Spent extends RuntimeException { private static final long serialVersionUID = 1L; }

  static final BigInteger MOST = BigInteger.valueOf(1000000000L);

  record Frac(BigInteger over, BigInteger under) {
    static Frac of(BigInteger over, BigInteger under) {
      if (under.signum() < 0) { over = over.negate(); under = under.negate(); }
      BigInteger g = over.gcd(under);
      Frac f = new Frac(over.divide(g), under.divide(g));
      if (f.over.abs().compareTo(MOST) > 0 || f.under.compareTo(MOST) > 0) throw new Full();
      return f;
    }
    static Frac of(long over, long under) { return of(BigInteger.valueOf(over), BigInteger.valueOf(under)); }
    Frac add(Frac o) { return of(over.multiply(o.under).add(o.over.multiply(under)), under.multiply(o.under)); }
    Frac mul(Frac o) { return of(over.multiply(o.over), under.multiply(o.under)); }
    Frac by(Frac o) { return of(over.multiply(o.under), under.multiply(o.over)); }
    Frac neg() { return new Frac(over.negate(), under); }
    boolean isZero() { return over.signum() == 0; }
  }

  static final Frac ONE = Frac.of(1, 1);

  /** Exponents, always four. */
  record Mono(List<Integer> e) {
    static Mono unpack(int powers) {
      return new Mono(List.of(powers & 255, powers >> 8 & 255, powers >> 16 & 255, powers >> 24 & 255));
    }
    int pack() { return e.get(0) + (e.get(1) << 8) + (e.get(2) << 16) + (e.get(3) << 24); }
    int sum() { return e.get(0) + e.get(1) + e.get(2) + e.get(3); }
    boolean divides(Mono o) {
      for (int i = 0; i < 4; i++) if (e.get(i) > o.e.get(i)) return false;
      return true;
    }
    Mono times(Mono o) {
      List<Integer> r = new ArrayList<>();
      for (int i = 0; i < 4; i++) {
        int s = e.get(i) + o.e.get(i);
        if (s > 30) throw new Full();
        r.add(s);
      }
      return new Mono(r);
    }
    Mono by(Mono o) {
      List<Integer> r = new ArrayList<>();
      for (int i = 0; i < 4; i++) r.add(e.get(i) - o.e.get(i));
      return new Mono(r);
    }
    Mono lcm(Mono o) {
      List<Integer> r = new ArrayList<>();
      for (int i = 0; i < 4; i++) r.add(Math.max(e.get(i), o.e.get(i)));
      return new Mono(r);
    }
    boolean apart(Mono o) {
      for (int i = 0; i < 4; i++) if (e.get(i) > 0 && o.e.get(i) > 0) return false;
      return true;
    }
  }

  static int compareFirst(Mono a, Mono b) {
    for (int i = 0; i < 4; i++) if (!a.e.get(i).equals(b.e.get(i))) return a.e.get(i) - b.e.get(i);
    return 0;
  }

  static int compareSum(Mono a, Mono b) {
    if (a.sum() != b.sum()) return a.sum() - b.sum();
    for (int i = 3; i >= 0; i--) if (!a.e.get(i).equals(b.e.get(i))) return b.e.get(i) - a.e.get(i);
    return 0;
  }

  int kind = 0;

  final Comparator<Mono> byOrder = (a, b) -> {
    if (kind == 0) return compareFirst(a, b);
    if (kind == 1) return compareSum(a, b);
    return a.e.get(0).equals(b.e.get(0)) ? compareSum(a, b) : a.e.get(0) - b.e.get(0);
  };

  /** A polynomial: a map in falling order. */
  final class Poly {
    TreeMap<Mono, Frac> terms = new TreeMap<>(byOrder.reversed());
    Poly copy() {
      Poly p = new Poly();
      for (Map.Entry<Mono, Frac> t : terms.entrySet()) p.terms.put(t.getKey(), t.getValue());
      return p;
    }
    void come(Frac f, Mono m) {
      Frac old = terms.get(m);
      Frac now = old == null ? f : old.add(f);
      if (now.isZero()) { terms.remove(m); return; }
      if (old == null && terms.size() == 100) throw new Full();
      terms.put(m, now);
    }
    Poly plus(Frac f, Mono m, Poly g) {
      for (Map.Entry<Mono, Frac> t : g.terms.entrySet()) come(t.getValue().mul(f), t.getKey().times(m));
      return this;
    }
    Poly plusAll(Poly f, Poly g, boolean minus) {
      for (Map.Entry<Mono, Frac> t : f.terms.entrySet()) plus(minus ? t.getValue().neg() : t.getValue(), t.getKey(), g);
      return this;
    }
    Mono lead() { return terms.firstKey(); }
    boolean isZero() { return terms.isEmpty(); }
    List<Map.Entry<Mono, Frac>> list() { return new ArrayList<>(terms.entrySet()); }
    void scale(Frac f) { for (Map.Entry<Mono, Frac> t : terms.entrySet()) t.setValue(t.getValue().mul(f)); }
  }

  final class Elem {
    Poly body;
    Poly[] cof;
    Elem monic() {
      Frac f = ONE.by(body.terms.get(body.lead()));
      body.scale(f);
      for (Poly c : cof) c.scale(f);
      return this;
    }
  }

  static final Mono UNIT = Mono.unpack(0);

  final class Steps { int begun; int most; Steps(int most) { this.most = most; } }

  /** The rest; quotients go where they are asked for. */
  Poly dividing(Poly f, List<Elem> row, Elem without, Map<Elem, Poly> quotients, Steps steps) {
    Poly rest = new Poly();
    for (Elem e : row) quotients.put(e, new Poly());
    while (!f.isZero()) {
      if (steps.begun == steps.most) throw new Spent();
      steps.begun++;
      Mono m = f.lead();
      Frac c = f.terms.get(m);
      Elem g = null;
      for (Elem e : row) if (e != without && e.body.lead().divides(m)) { g = e; break; }
      if (g == null) {
        f.terms.remove(m);
        rest.come(c, m);
      } else {
        Frac u = c.by(g.body.terms.get(g.body.lead()));
        Mono um = m.by(g.body.lead());
        f.plus(u.neg(), um, g.body);
        quotients.get(g).come(u, um);
      }
    }
    return rest;
  }

  final class Buchberger {
    List<Elem> elems = new ArrayList<>();
    List<int[]> pairs = new ArrayList<>();
    Steps steps;
    int taken;
    int passed;
    int made;

    boolean waits(int a, int b) {
      for (int[] p : pairs) if (p[0] == Math.min(a, b) && p[1] == Math.max(a, b)) return true;
      return false;
    }

    void add(Elem e) {
      if (elems.size() == 24) throw new Full();
      e.monic();
      for (int i = 0; i < elems.size(); i++) pairs.add(new int[] {i, elems.size()});
      elems.add(e);
      made = elems.size();
    }

    void run(List<Poly> gens, boolean cofactors, int most) {
      steps = new Steps(most);
      int width = cofactors ? gens.size() : 0;
      for (int k = 0; k < gens.size(); k++) {
        if (gens.get(k).isZero()) continue;
        Elem e = new Elem();
        e.body = gens.get(k).copy();
        e.cof = new Poly[width];
        for (int h = 0; h < width; h++) e.cof[h] = new Poly();
        if (cofactors) e.cof[k].come(ONE, UNIT);
        add(e);
      }
      while (!pairs.isEmpty()) {
        int[] best = null;
        for (int[] p : pairs) if (best == null || before(p, best)) best = p;
        pairs.remove(best);
        taken++;
        treat(best[0], best[1], width);
      }
      finish(width);
    }

    Mono common(int[] p) { return elems.get(p[0]).body.lead().lcm(elems.get(p[1]).body.lead()); }

    boolean before(int[] p, int[] q) {
      int c = byOrder.compare(common(p), common(q));
      if (c != 0) return c < 0;
      return p[1] != q[1] ? p[1] < q[1] : p[0] < q[0];
    }

    void treat(int i, int j, int width) {
      Elem a = elems.get(i);
      Elem b = elems.get(j);
      Mono c = a.body.lead().lcm(b.body.lead());
      boolean pass = a.body.lead().apart(b.body.lead());
      for (int k = 0; k < elems.size(); k++) {
        if (k != i && k != j && elems.get(k).body.lead().divides(c) && !waits(k, i) && !waits(k, j)) pass = true;
      }
      if (pass) { passed++; return; }
      Mono x = c.by(a.body.lead());
      Mono y = c.by(b.body.lead());
      Elem e = new Elem();
      e.cof = new Poly[width];
      Poly f = new Poly().plus(ONE, x, a.body).plus(ONE.neg(), y, b.body);
      for (int k = 0; k < width; k++) e.cof[k] = new Poly().plus(ONE, x, a.cof[k]).plus(ONE.neg(), y, b.cof[k]);
      Map<Elem, Poly> q = new java.util.IdentityHashMap<>();
      e.body = dividing(f, elems, null, q, steps);
      if (e.body.isZero()) return;
      for (int k = 0; k < width; k++) for (Elem g : elems) e.cof[k].plusAll(q.get(g), g.cof[k], true);
      add(e);
    }

    void finish(int width) {
      List<Elem> stay = new ArrayList<>();
      for (int i = 0; i < elems.size(); i++) {
        boolean goes = false;
        Mono m = elems.get(i).body.lead();
        for (int j = 0; j < elems.size(); j++) {
          Mono o = elems.get(j).body.lead();
          if (j != i && o.divides(m) && (!o.equals(m) || j < i)) goes = true;
        }
        if (!goes) stay.add(elems.get(i));
      }
      stay.sort((a, b) -> byOrder.compare(a.body.lead(), b.body.lead()));
      elems = stay;
      for (Elem e : elems) {
        Mono m = e.body.lead();
        Frac c = e.body.terms.get(m);
        Poly f = e.body.copy();
        f.terms.remove(m);
        Map<Elem, Poly> q = new java.util.IdentityHashMap<>();
        Poly rest = dividing(f, elems, e, q, steps);
        rest.come(c, m);
        for (int k = 0; k < width; k++) for (Elem g : elems) if (g != e) e.cof[k].plusAll(q.get(g), g.cof[k], true);
        e.body = rest;
      }
    }
  }

  final int n;
  Poly[] places = new Poly[40];
  List<Poly> gens = new ArrayList<>();
  List<Elem> house = null;
  Map<Elem, Poly> quotients = null;
  int[] did = new int[4];

  Oracle(int variables) {
    n = Math.max(1, Math.min(4, variables));
    for (int i = 0; i < 40; i++) places[i] = new Poly();
  }

  static boolean place(int... ps) {
    for (int p : ps) if (p < 0 || p > 39) return false;
    return true;
  }

  int order(int k) {
    if (k < 0 || k > 2) return -2;
    int was = kind;
    List<List<Map.Entry<Mono, Frac>>> lists = new ArrayList<>();
    for (Poly p : places) lists.add(p.list());
    List<List<Map.Entry<Mono, Frac>>> glists = new ArrayList<>();
    for (Poly p : gens) glists.add(p.list());
    kind = k;
    for (int i = 0; i < 40; i++) { places[i] = new Poly(); for (Map.Entry<Mono, Frac> t : lists.get(i)) places[i].terms.put(t.getKey(), t.getValue()); }
    for (int i = 0; i < gens.size(); i++) { gens.set(i, new Poly()); for (Map.Entry<Mono, Frac> t : glists.get(i)) gens.get(i).terms.put(t.getKey(), t.getValue()); }
    house = null;
    quotients = null;
    return was;
  }

  int term(int p, int over, int under, int powers) {
    if (!place(p)) return -1;
    if (Math.abs((long) over) > 1000000000L || Math.abs((long) under) > 1000000000L || under == 0) return -2;
    for (int v = 0; v < 4; v++) {
      int e = powers >>> 8 * v & 255;
      if (e > 30 || v >= n && e != 0) return -2;
    }
    if (over == 0) return places[p].terms.size();
    try { places[p].come(Frac.of(over, under), Mono.unpack(powers)); } catch (Full f) { return -7; }
    return places[p].terms.size();
  }

  int zero(int p) {
    if (!place(p)) return -1;
    int was = places[p].terms.size();
    places[p] = new Poly();
    return was;
  }

  int size(int p) { return place(p) ? places[p].terms.size() : -1; }

  int told(int p, int i, int what) {
    if (!place(p) || i < 0 || i >= places[p].terms.size()) return -1;
    if (what < 0 || what > 2) return -2;
    Map.Entry<Mono, Frac> t = places[p].list().get(i);
    return what == 0 ? t.getValue().over.intValueExact() : what == 1 ? t.getValue().under.intValueExact() : t.getKey().pack();
  }

  int put(Poly p, int r) { places[r] = p; return p.terms.size(); }

  int plus(int p, int q, int r) {
    if (!place(p, q, r)) return -1;
    try { return put(places[p].copy().plus(ONE, UNIT, places[q]), r); } catch (Full f) { return -7; }
  }

  int times(int p, int q, int r) {
    if (!place(p, q, r)) return -1;
    try { return put(new Poly().plusAll(places[p], places[q], false), r); } catch (Full f) { return -7; }
  }

  int same(int p, int q) {
    if (!place(p, q)) return -1;
    return places[p].list().equals(places[q].list()) ? 1 : 0;
  }

  int vanishes(int p, int a, int b, int c, int d) {
    if (!place(p)) return -1;
    int[] at = {a, b, c, d};
    for (int v = 0; v < n; v++) if (at[v] > 1000 || at[v] < -1000) return -2;
    try {
      Frac total = Frac.of(0, 1);
      for (Map.Entry<Mono, Frac> t : places[p].list()) {
        Frac f = t.getValue();
        for (int v = 0; v < n; v++) for (int k = 0; k < t.getKey().e.get(v); k++) f = f.mul(Frac.of(at[v], 1));
        total = total.add(f);
      }
      return total.isZero() ? 1 : 0;
    } catch (Full f) { return -7; }
  }

  int generator(int p) {
    if (!place(p)) return -1;
    if (gens.size() == 8) return -4;
    gens.add(places[p].copy());
    house = null;
    quotients = null;
    return gens.size() - 1;
  }

  int clear() {
    int was = gens.size();
    gens.clear();
    house = null;
    quotients = null;
    return was;
  }

  int basis(int steps) {
    if (steps < 0 || steps > 20000) return -2;
    house = null;
    quotients = null;
    Buchberger b = new Buchberger();
    int answer;
    try { b.run(gens, true, steps); house = b.elems; answer = house.size(); }
    catch (Full f) { answer = -7; }
    catch (Spent f) { answer = -6; }
    did = new int[] {b.steps.begun, b.taken, b.passed, b.made};
    return answer;
  }

  int done(int what) { return what < 0 || what > 3 ? -2 : did[what]; }

  int element(int i, int r) {
    if (house == null) return -3;
    if (i < 0 || i >= house.size() || !place(r)) return -1;
    return put(house.get(i).body.copy(), r);
  }

  int share(int i, int k, int r) {
    if (house == null) return -3;
    if (i < 0 || i >= house.size() || k < 0 || k >= gens.size() || !place(r)) return -1;
    return put(house.get(i).cof[k].copy(), r);
  }

  boolean proven;

  int divide(int p, int r) {
    if (!place(p, r)) return -1;
    if (house == null) return -3;
    try {
      Map<Elem, Poly> q = new java.util.IdentityHashMap<>();
      Poly rest = dividing(places[p].copy(), house, null, q, new Steps(5000));
      quotients = q;
      proven = rest.isZero();
      put(rest, r);
      return proven ? 1 : 0;
    } catch (Full f) { return -7; } catch (Spent f) { return -6; }
  }

  int certificate(int k, int r) {
    if (house == null || quotients == null || !proven) return -3;
    if (k < 0 || k >= gens.size() || !place(r)) return -1;
    try {
      Poly s = new Poly();
      for (Elem e : house) s.plusAll(quotients.get(e), e.cof[k], false);
      return put(s, r);
    } catch (Full f) { return -7; }
  }

  int check() {
    if (house == null) return -3;
    try {
      for (Elem e : house) {
        Poly s = new Poly();
        for (int k = 0; k < gens.size(); k++) s.plus(ONE, UNIT, new Poly().plusAll(e.cof[k], gens.get(k), false));
        if (!s.list().equals(e.body.list())) return 0;
      }
      return 1;
    } catch (Full f) { return -7; }
  }

  int radical(int p, int steps) {
    if (!place(p)) return -1;
    if (steps < 0 || steps > 20000) return -2;
    if (n == 4) return -3;
    try {
      Poly g = new Poly();
      g.come(ONE, UNIT);
      g.plus(ONE.neg(), Mono.unpack(1 << 8 * n), places[p]);
      List<Poly> all = new ArrayList<>(gens);
      all.add(g);
      Buchberger b = new Buchberger();
      b.run(all, false, steps);
      return b.elems.size() == 1 && b.elems.get(0).body.list().equals(Arrays.asList(Map.entry(UNIT, ONE))) ? 1 : 0;
    } catch (Full f) { return -7; } catch (Spent f) { return -6; }
  }

  int free(int k) {
    if (k < 0 || k > n) return -2;
    if (house == null) return -3;
    int c = 0;
    for (Elem e : house) {
      boolean has = false;
      for (Mono m : e.body.terms.keySet()) for (int v = 0; v < k; v++) if (m.e.get(v) > 0) has = true;
      if (!has) c++;
    }
    return c;
  }

  int stairs() {
    if (house == null) return -3;
    // With no end there is a monomial under the stairs that has the exponent 31 of some variable.
    int total = 0;
    int[] e = new int[4];
    int top = 31;
    for (e[0] = 0; e[0] <= top; e[0]++)
      for (e[1] = 0; e[1] <= (n > 1 ? top : 0); e[1]++)
        for (e[2] = 0; e[2] <= (n > 2 ? top : 0); e[2]++)
          for (e[3] = 0; e[3] <= (n > 3 ? top : 0); e[3]++) {
            if (isAbove(e)) continue;
            total++;
            for (int v = 0; v < n; v++) if (e[v] == top) return -8;
          }
    return total;
  }

  private boolean isAbove(int[] e) {
    for (Elem g : house) {
      List<Integer> m = g.body.lead().e;
      if (m.get(0) <= e[0] && m.get(1) <= e[1] && m.get(2) <= e[2] && m.get(3) <= e[3]) return true;
    }
    return false;
  }
}
