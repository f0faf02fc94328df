/** The boundary cases that the document names for DIVIDING, THE BASIS and what is asked of it, a method for each sentence. */
public final class BasisEdgesTest extends Trial {
  /** A sum of so many products of a power of one variable, from 1 on, and one of another, 0 .. 9. */
  private static String sum(int count, String sign, String one, String other) {
    StringBuilder b = new StringBuilder();
    for (int i = 0; i < count; i++) {
      b.append(sign).append(one).append('^').append(1 + i / 10);
      if (i % 10 != 0) b.append('*').append(other).append('^').append(i % 10);
    }
    return b.toString();
  }

  private static IdealProver based(int variables, int kind, String... generators) {
    IdealProver a = ideal(variables, kind, generators);
    due("basis", a.basis(20000) >= 0 ? 1 : 0, 1);
    return a;
  }

  private static void notZero() {
    says("DIVIDING: as long as f is not 0");
    IdealProver a = based(2, 0, "x-1", "y-1");
    Words.put(a, 1, "x");
    due("0 lies there", a.divide(0, 1), 1);
    due("the REST is 0", a.size(1), 0);
    due("no QUOTIENTS", certificates(a), "0 0");
    IdealProver b = based(2, 0);
    due("0 lies in the ideal of none", b.divide(0, 1), 1);
    Words.put(b, 0, "x+1/2");
    due("nothing else does", b.divide(0, 1), 0);
    due("all is REST", Words.get(b, 1), "x+1/2");
  }

  private static void firstInTheRow() {
    says("DIVIDING: the first one in the row, g, whose LEADING MONOMIAL divides that of t");
    IdealProver a = based(2, 0, "x-1", "y-1");
    due("the row", elements(a), "y-1 x-1");
    Words.put(a, 0, "x*y-1");
    due("both divide", a.divide(0, 1), 1);
    due("the first is taken", certificates(a), "1 x");
    a.order(1);
    a.basis(100);
    due("divide", a.divide(0, 1), 1);
    due("y is the least there, too", certificates(a), "1 x");
  }

  private static void noExponentIsGreater() {
    says("DIVIDING: divides that of t (no exponent is greater)");
    IdealProver a = based(4, 0, "x^2*y^3*z^4*w^5");
    String[] inside = {"x^2*y^3*z^4*w^5", "x^3*y^3*z^4*w^5", "x^30*y^30*z^30*w^30"};
    String[] outside = {"x*y^3*z^4*w^5", "x^2*y^2*z^4*w^5", "x^2*y^3*z^3*w^5", "x^2*y^3*z^4*w^4", "x^30*y^30*z^30*w^4", "x*y^30*z^30*w^30", "1"};
    for (String f : inside) {
      Words.put(a, 0, f);
      due(f, a.divide(0, 1), 1);
    }
    for (String f : outside) {
      Words.put(a, 0, f);
      due(f, a.divide(0, 1), 0);
      due("REST of " + f, Words.get(a, 1), f);
    }
  }

  private static void eachTimeIsAStep() {
    says("DIVIDING: without such a one t goes from f and COMES to the REST. Each time is a STEP");
    IdealProver a = ideal(1, 0, "x^3+x^2+x+1");
    due("3 TERMS behind the LEADING one, 3 STEPS", a.basis(3), 1);
    due("done", dones(a), "3 0 0 1");
    due("2 STEPS", a.basis(2), -6);
    due("done", dones(a), "2 0 0 1");
    IdealProver b = ideal(2, 0, "x-y", "y-1");
    due("y by y - 1, and 1 to the REST; 1 to the REST", b.basis(3), 2);
    due("done", dones(b), "3 1 1 2");
    due("one less", b.basis(2), -6);
  }

  private static void fullRest() {
    says("DIVIDING: a 101st TERM in the REST, in f, in a QUOTIENT is FULL");
    for (int more = 0; more < 2; more++) {
      IdealProver a = based(4, 0, "y" + sum(40 + more, "-", "z", "w"));
      Words.put(a, 0, sum(60, "+", "x", "w") + "+y");
      due("a REST of " + (100 + more), a.divide(0, 1), more == 0 ? 0 : -7);
      due("a REST of " + (100 + more), a.size(1), more == 0 ? 100 : 0);
    }
    for (int more = 0; more < 2; more++) {
      IdealProver a = based(4, 0, "x" + sum(40 + more, "-", "z", "w"));
      Words.put(a, 0, "x" + sum(60, "+", "y", "w"));
      due("f of " + (100 + more), a.divide(0, 1), more == 0 ? 0 : -7);
    }
    for (int more = 0; more < 2; more++) {
      IdealProver a = based(2, 0, "x-1");
      Words.put(a, 0, "x^25+x^25*y+x^25*y^2+x^25*y^3" + (more == 0 ? "" : "+x*y^4"));
      due("a QUOTIENT of " + (100 + more), a.divide(0, 1), more == 0 ? 0 : -7);
      due("a REST of 4", a.size(1), more == 0 ? 4 : 0);
    }
  }

  private static void manySteps() {
    says("divide: -6 more than 5000 STEPS (no QUOTIENT has more than 100 TERMS, so there are 2500 STEPS at most)");
    IdealProver a = based(4, 1, "x-1", "y-1", "z-1", "w-1");
    for (int i = 0; i < 10; i++) for (int j = 0; j < 10; j++) a.term(0, 1, 1, i | j << 8 | 1 << 16 | 1 << 24);
    due("100 TERMS", a.size(0), 100);
    due("some 300 STEPS", a.divide(0, 1), 0);
    due("the REST", Words.get(a, 1), "100");
  }

  private static void notZeroGenerators() {
    says("At first the ELEMENTS are the GENERATORS that are not 0, in their order");
    IdealProver a = based(2, 0, "0", "0");
    due("none", dones(a), "0 0 0 0");
    due("none", a.element(0, 0), -1);
    due("no end", a.stairs(), -8);
    due("none is free", a.free(0), 0);
    due("all of none are right", a.check(), 1);
    a = based(2, 0, "0", "3*y", "0", "2*x", "0", "0", "0", "0");
    due("two of eight", dones(a), "0 1 1 2");
    due("two of eight", elements(a), "y x");
    due("COFACTORS of all eight", shares(a, 0), "0 1/3 0 0 0 0 0 0");
    due("COFACTORS of all eight", shares(a, 1), "0 0 0 1/2 0 0 0 0");
  }

  private static void madeMonic() {
    says("MADE MONIC it is when all its TERMS and those of its COFACTORS are multiplied by 1 by its LEADING FRACTION");
    IdealProver a = based(1, 0, "-2*x+4");
    due("ELEMENT", elements(a), "x-2");
    due("COFACTOR", shares(a, 0), "-1/2");
    a = based(1, 0, "-2/3*x+1");
    due("ELEMENT", elements(a), "x-3/2");
    due("COFACTOR", shares(a, 0), "-3/2");
    a = based(1, 0, "1000000000/999999999*x");
    due("COFACTOR", shares(a, 0), "999999999/1000000000");
    a = based(1, 0, "-1/1000000000*x-1");
    due("ELEMENT", elements(a), "x+1000000000");
    due("COFACTOR", shares(a, 0), "-1000000000");
    a = ideal(1, 0, "1/1000000000*x-2");
    due("the ELEMENT is FULL", a.basis(20000), -7);
    due("there was none", dones(a), "0 0 0 0");
    a = ideal(1, 0, "x", "1/2*x+500000000");
    due("1000000000", a.basis(20000), 1);
    a = ideal(1, 0, "x", "1/2*x+500000001");
    due("1000000002", a.basis(20000), -7);
    due("there was one before", dones(a), "0 0 0 1");
    a = ideal(1, 0, "113*x^3", "181*x-241");
    due("a COFACTOR of a later one with a denominator of 113 * 241^3", a.basis(20000), -7);
    due("in the first PAIR, behind its STEPS", dones(a), "3 1 0 2");
  }

  private static void whichPair() {
    says("that whose LEAST COMMON MONOMIAL c is least, of the same the one with the least j, then i, waits no more");
    IdealProver a = based(1, 0, "2", "2*x", "x^2");
    due("the least c: 0 and 1 first, so the last one may be passed over", dones(a), "0 3 3 3");
    a = based(1, 0, "x^2", "2*x", "2");
    due("the least c: 1 and 2 first, 0 and 2 not before 0 and 1", dones(a), "0 3 2 3");
    a = based(1, 0, "2", "x", "2*x");
    due("the same c: the least i", dones(a), "0 3 3 3");
    a = based(1, 0, "2*x", "1", "2*x");
    due("the same c: the least i", dones(a), "0 3 2 3");
    a = ideal(2, 1, "x^2*y^2+2", "2*x^2*y^2+2*x*y^2-y^2", "x^2+2*x*y+2*y^2");
    due("the same c: the least j before the least i", a.basis(20000), -7);
    due("the same c: the least j before the least i", dones(a), "28 8 1 9");
  }

  private static void noVariableInCommon() {
    says("It is passed over, if both LEADING MONOMIALS have no VARIABLE in common");
    IdealProver a = based(2, 0, "x-1", "y-1");
    due("none in common", dones(a), "2 1 1 2");
    a = based(4, 0, "x^30*z^30", "y^30*w^30");
    due("none in common", dones(a), "0 1 1 2");
    for (String v : new String[] {"x", "y", "z", "w"}) {
      a = based(4, 0, v, v + "^2");
      due(v + " in common", dones(a), "0 1 0 2");
      a = based(4, 0, "2", v);
      due("1 has none", dones(a), "0 1 1 2");
    }
    a = based(4, 0, "2", "3");
    due("1 has none", dones(a), "0 1 1 2");
  }

  private static void someOther() {
    says("or if the LEADING MONOMIAL of some other ELEMENT k divides c, and no PAIR of k with i, with j waits");
    IdealProver a = based(3, 0, "x*y", "y*z", "x*z");
    due("the last of three with the same c", dones(a), "0 3 1 3");
    a = based(3, 0, "x^2*y", "y*z", "x^2*z");
    due("the last of three with the same c", dones(a), "0 3 1 3");
    a = based(2, 0, "x^2", "x*y", "y^2");
    due("a PAIR of k with i waits no more, one with j neither: x^2 and y^2 have none in common", dones(a), "0 3 1 3");
    a = based(3, 0, "x^2*z", "x*y*z", "y^2*z");
    due("k between both", dones(a), "0 3 1 3");
    a = based(3, 0, "x^2*z", "y^2*z", "x*y*z^2");
    due("k does not divide c", dones(a), "0 3 0 3");
    a = based(3, 0, "x^2*z", "y^2*z", "x*y*z");
    due("k divides it", dones(a), "0 3 1 3");
  }

  private static void restIsZero() {
    says("If the REST is not 0, it is a new ELEMENT");
    IdealProver a = based(3, 0, "x*y", "x*z");
    due("f is 0 at once", dones(a), "0 1 0 2");
    a = based(2, 0, "x*y-y", "x-1");
    due("f is 0 at once", dones(a), "1 1 0 2");
    due("one stays", elements(a), "x-1");
    a = based(1, 0, "x-1", "x-2");
    due("a REST of one TERM", dones(a), "1 3 2 3");
    due("one stays", elements(a), "1");
    due("COFACTORS", shares(a, 0), "1 -1");
  }

  private static void fullPairs() {
    says("f is 0 PLUS x i, then PLUS - y j; COFACTORS for f likewise");
    for (int steps : new int[] {0, 20000}) {
      IdealProver a = ideal(2, 0, "x^2+y^20", "x*y^20+1");
      due("an exponent of 40 before any STEP", a.basis(steps), -7);
      due("done", dones(a), "0 1 0 2");
    }
    IdealProver a = ideal(2, 0, "x^2+y^20", "x*y^10+1");
    due("an exponent of 30", a.basis(0), -6);
    a = ideal(1, 0, "x^2+1000000000*x", "x^2-x");
    due("a FRACTION of 1000000001 before any STEP", a.basis(0), -7);
    a = ideal(1, 0, "x^2+1000000000*x", "x^2+x");
    due("a FRACTION of 999999999", a.basis(0), -6);
    for (int more = 0; more < 2; more++) {
      a = ideal(4, 0, "x*y" + sum(60, "+", "z", "w"), "x*y" + sum(40 + more, "+", "y", "w"));
      due("f of " + (100 + more) + " TERMS", a.basis(0), more == 0 ? -6 : -7);
    }
    a = ideal(2, 1, "-25*x^2*y+19*y", "-22*x^3-4*x+25");
    due("COFACTORS for f, though the REST would be 0", a.basis(20000), -7);
    due("before its STEPS", dones(a), "4 3 0 4");
    a = ideal(3, 2, "2*x^8", "x*z^10-1");
    due("COFACTORS for f with an exponent above 30", a.basis(20000), -7);
    due("before its STEPS", dones(a), "3 4 0 5");
  }

  private static void fullCofactors() {
    says("COFACTORS: for each GENERATOR in order, those for f PLUS - u h for each TERM u in ORDER of the QUOTIENT of each ELEMENT");
    IdealProver a = ideal(1, 1, "59*x^3", "28*x^2+175*x-16");
    due("a FRACTION behind the STEPS of the second PAIR", a.basis(20000), -7);
    due("no new ELEMENT", dones(a), "5 2 0 3");
    a = ideal(2, 2, "x^7*y^10+2", "x^5*y^3+1");
    due("an exponent behind the STEPS of the fourth PAIR", a.basis(20000), -7);
    due("no new ELEMENT", dones(a), "9 4 0 5");
    a = ideal(2, 2, "-559*x^2+466*x", "98*y^2", "-883*x+592*y");
    due("a FRACTION when ELEMENTS are REDUCED", a.basis(20000), -7);
    due("no PAIR waits", dones(a), "5 6 4 4");
  }

  private static void newOnes() {
    says("A 25th ELEMENT is FULL");
    IdealProver a = ideal(3, 2, "x^2*z^8+y*z^5", "x^5*z^3+z");
    due("24 of them, 6 stay", a.basis(20000), 6);
    due("24 of them", dones(a), "57 276 224 24");
    due("COFACTORS", shares(a, 3), "x^10 -x^7*z^5-x^5*y*z^2+x^2*z^3+y");
    due("check", a.check(), 1);
    a = ideal(3, 2, "x^4*y^6-y^4*z^5", "x^5*y^2-1");
    due("a 25th", a.basis(20000), -7);
    due("24 of them", a.done(3), 24);
    due("no BASIS", a.element(0, 0), -3);
  }

  private static void thoseGo() {
    says("Then those go whose LEADING MONOMIAL another one's divides (of the same one the first stays)");
    IdealProver a = based(1, 0, "2", "3");
    due("the first stays", shares(a, 0), "1/2 0");
    a = based(1, 0, "2*x", "5*x", "3*x");
    due("the first stays", shares(a, 0), "1/2 0 0");
    due("of three", dones(a), "0 3 1 3");
    a = based(2, 0, "x^2*y", "x*y", "x*y^2", "y^3");
    due("an earlier and a later one go", elements(a), "y^3 x*y");
    due("which", shares(a, 1), "0 1 0 0");
    a = based(2, 0, "x^3", "x^2", "x");
    due("one that goes has others go, too", elements(a), "x");
    says("the others stand in ORDER, the least first");
    a = based(2, 0, "x^2", "y^9", "x*y");
    due("kind 0", elements(a), "y^9 x*y x^2");
    a.order(1);
    a.basis(100);
    due("kind 1", elements(a), "x*y x^2 y^9");
  }

  private static void reduced() {
    says("From the first on each one is REDUCED: .. by the row of all others (as they are then)");
    IdealProver a = based(3, 0, "y+x^2", "2*z-y", "2*x^2");
    due("STEPS", dones(a), "4 6 5 4");
    due("ELEMENTS", elements(a), "z y x^2");
    due("COFACTORS", shares(a, 0), "1/2 1/2 -1/4");
    a = based(4, 0, "-2*y-2*z*w", "2*z+w^2", "2*z");
    due("STEPS", dones(a), "3 6 5 4");
    due("COFACTORS", shares(a, 2), "-1/2 0 -1/2*w");
    says("it is the REST then, to which the LEADING TERM COMES");
    for (int more = 0; more < 2; more++) {
      a = ideal(4, 0, "x+y" + sum(98, "+", "z", "w"), "y-z^20" + (more == 0 ? "" : "-z^21"));
      due("an ELEMENT of " + (100 + more), a.basis(20000), more == 0 ? 2 : -7);
      due("done", dones(a), (more == 0 ? "101" : "103") + " 1 1 2");
    }
  }

  private static void spent() {
    says("SPENT it is when one STEP more than told would begin");
    String[][] rows = {{"x^2+y^2-1", "x-y"}, {"x^2+y", "x*y-1"}, {"x-1"}, {"x^2-y", "y^2-x", "x*y-1"}};
    for (String[] row : rows) {
      for (int kind = 0; kind < 3; kind++) {
        IdealProver a = ideal(2, kind, row);
        int count = a.basis(20000);
        int all = a.done(0);
        due("there are STEPS", all > 0 ? 1 : 0, 1);
        due("just as many", a.basis(all), count);
        due("all begun", a.done(0), all);
        due("one less", a.basis(all - 1), -6);
        due("all of these begun", a.done(0), all - 1);
        due("none", a.basis(0), -6);
        due("none begun", a.done(0), 0);
      }
    }
    IdealProver a = ideal(2, 0, "x^2", "x*y", "7*y^2");
    due("no STEP is needed", a.basis(0), 3);
    says("(When it is FULL or SPENT there is no BASIS.)");
    a = ideal(2, 0, "x^2+y^2-1", "x-y");
    a.basis(100);
    due("a BASIS", a.stairs(), 2);
    due("SPENT", a.basis(4), -6);
    for (int answer : new int[] {a.element(0, 0), a.share(0, 0, 0), a.divide(0, 0), a.certificate(0, 0), a.check(), a.free(0), a.stairs()}) due("no BASIS", answer, -3);
    a.basis(100);
    Words.put(a, 0, "1/2*x+1000000000");
    a.generator(0);
    due("FULL", a.basis(100), -7);
    for (int answer : new int[] {a.element(0, 0), a.share(0, 0, 0), a.divide(0, 0), a.certificate(0, 0), a.check(), a.free(0), a.stairs()}) due("no BASIS", answer, -3);
  }

  private static void latestBasis() {
    says("done: Of the latest basis() that was not refused by -2 .. (also when it was SPENT, FULL)");
    IdealProver a = ideal(2, 0, "x^2+y^2-1", "x-y");
    a.basis(5);
    due("done", dones(a), "5 3 2 3");
    a.basis(20001);
    a.basis(-1);
    a.radical(0, 100);
    a.divide(0, 0);
    due("still", dones(a), "5 3 2 3");
    a.basis(4);
    due("SPENT among the ELEMENTS that stay", dones(a), "4 3 2 3");
    a.basis(1);
    due("SPENT in the first PAIR", dones(a), "1 1 0 2");
    Words.put(a, 0, "1/2*x+1000000000");
    a.generator(0);
    due("not of a new basis() yet", dones(a), "1 1 0 2");
    a.basis(100);
    due("FULL at the third GENERATOR", dones(a), "0 0 0 2");
    a.clear();
    due("clear() leaves it", dones(a), "0 0 0 2");
    a.basis(0);
    due("none", dones(a), "0 0 0 0");
  }

  private static void radicalSteps() {
    says("radical: with one VARIABLE more, the last, t, and one GENERATOR more, behind all .. with so many STEPS");
    IdealProver a = ideal(1, 0, "x");
    Words.put(a, 0, "x");
    due("1 STEP: t x - (x t - 1)", a.radical(0, 1), 1);
    due("0 STEPS", a.radical(0, 0), -6);
    a = ideal(2, 0, "x^3", "y^2-x");
    Words.put(a, 0, "y");
    Words.put(a, 1, "x-1");
    int[][] steps = {{9, 40}, {10, 25}, {9, 40}};
    for (int kind = 0; kind < 3; kind++) {
      a.order(kind);
      due("kind " + kind + ", STEPS for y", least(a, 0), steps[kind][0]);
      due("kind " + kind + ", STEPS for x - 1", least(a, 1), steps[kind][1]);
      due("kind " + kind + ", y", a.radical(0, steps[kind][0]), 1);
      due("kind " + kind + ", x - 1", a.radical(1, steps[kind][1]), 0);
    }
  }

  /** The least steps with which radical() is not SPENT. */
  private static int least(IdealProver a, int p) {
    int steps = 0;
    while (steps < 60 && a.radical(p, steps) == -6) steps++;
    return steps;
  }

  private static void oneAlone() {
    says("radical: whether THE BASIS of these (by the same ORDER, without COFACTORS, ..) is 1 alone");
    for (int n = 1; n <= 3; n++) {
      IdealProver a = new IdealProver(n);
      due("0, of no GENERATORS", a.radical(0, 0), 1);
      Words.put(a, 0, "3");
      due("3, of no GENERATORS", a.radical(0, 100), 0);
      a.generator(0);
      due("all lies in the ideal of 3", a.radical(0, 100), 1);
      a.clear();
      Words.put(a, 1, "x^22");
      Words.put(a, 2, "x");
      a.generator(1);
      due("x^22, x t - 1, x^21, .. 1: 24 ELEMENTS", a.radical(2, 20000), 1);
      due("no power of 3 lies there", a.radical(0, 20000), 0);
      a.clear();
      Words.put(a, 1, "x^23");
      a.generator(1);
      due("25 ELEMENTS", a.radical(2, 20000), -7);
    }
    says("radical: -7 (also of the new GENERATOR)");
    IdealProver a = new IdealProver(2);
    grid(a, 0, 10, 10);
    due("101 TERMS with 1", a.radical(0, 20000), -7);
    a.term(0, -1, 1, 0);
    due("100 TERMS with 1", a.radical(0, 20000), 0);
    due("it was no GENERATOR", a.clear(), 0);
  }

  private static void freeOf() {
    says("free: How many ELEMENTS have none of the VARIABLES 0 .. k - 1");
    IdealProver a = based(4, 0, "x-y*w", "y-z^2", "z-w^2", "w^3-w");
    due("ELEMENTS", elements(a), "w^3-w z-w^2 y-w^2 x-w");
    for (int k = 0; k <= 4; k++) due("free(" + k + ")", a.free(k), 4 - k);
    a = based(4, 1, "w^2-x", "w^3-y");
    due("ELEMENTS", elements(a), "w^2-x x*w-y x^2-y*w");
    due("a later TERM has it", a.free(1), 0);
    a = based(3, 2, "5");
    for (int k = 0; k <= 3; k++) due("1 has none", a.free(k), 1);
    a = based(2, 1, "y^2+x");
    a.clear();
    Words.put(a, 0, "y");
    a.generator(0);
    a.basis(10);
    due("nothing is left of the BASIS before", a.free(1), 1);
  }

  private static void staircase() {
    says("stairs: How many MONOMIALS there are that no LEADING MONOMIAL of an ELEMENT divides (exponents of any size)");
    String[] letters = {"x", "y", "z", "w"};
    for (int n = 1; n <= 4; n++) {
      String[] walls = new String[n];
      int volume = 1;
      for (int v = 0; v < n; v++) {
        walls[v] = letters[v] + "^" + (30 - v);
        volume *= 30 - v;
      }
      due("a block of " + n, based(n, 1, walls).stairs(), volume);
      for (int v = 0; v < n; v++) {
        String[] open = walls.clone();
        open[v] = n == 1 ? "0" : letters[v] + "^30*" + letters[(v + 1) % n];
        due("no end of " + letters[v], based(n, 1, open).stairs(), -8);
      }
      walls[n - 1] = "1";
      due("1 divides all", based(n, 1, walls).stairs(), 0);
    }
    due("1 alone is under it", based(4, 0, letters).stairs(), 1);
    due("a corner is taken away", based(2, 0, "x^4", "y^5", "x^2*y^3").stairs(), 4 * 5 - 2 * 2);
    due("a corner of the least ELEMENT", based(2, 1, "x*y", "x^4", "y^4").stairs(), 7);
    due("a corner of the least ELEMENT", based(4, 1, "x*w", "x^4", "y^2", "z^2", "w^4").stairs(), 7 * 4);
    due("two corners", based(3, 0, "x^2", "y^2", "z^2", "x*y*z", "x*y").stairs(), 6);
    due("in the fourth", based(4, 0, "x^2", "y^2", "z^2", "w^3", "x*w^2", "y*z*w").stairs(), 8 + 8 - 2 + 4 - 1);
  }

  public static void main(String[] args) {
    notZero();
    firstInTheRow();
    noExponentIsGreater();
    eachTimeIsAStep();
    fullRest();
    manySteps();
    notZeroGenerators();
    madeMonic();
    whichPair();
    noVariableInCommon();
    someOther();
    restIsZero();
    fullPairs();
    fullCofactors();
    newOnes();
    thoseGo();
    reduced();
    spent();
    latestBasis();
    radicalSteps();
    oneAlone();
    freeOf();
    staircase();
    end();
  }
}
