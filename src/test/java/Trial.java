/** What the tests have in common: answers that are due, ideals made of words, and all that can be seen of an object. */
abstract class Trial {
  /** A call on an object, for tests that make it on a fresh one each time. */
  interface Call {
    int on(IdealProver a);
  }

  /** Makes an object in some state, always the same one. */
  interface Maker {
    IdealProver make();
  }

  private static int wrong = 0;
  private static String sentence = "";

  /** What is tested from here on: a promise, or words of the document. */
  static void says(String words) {
    sentence = words;
  }

  static void due(String call, int got, int want) {
    if (got != want) tell(call, "" + got, "" + want);
  }

  static void due(String call, String got, String want) {
    if (!got.equals(want)) tell(call, got, want);
  }

  private static void tell(String call, String got, String want) {
    wrong++;
    System.out.println(sentence + ": " + call + " answered " + got + ", due is " + want);
  }

  static void end() {
    System.out.println(wrong == 0 ? "all answers are as due" : wrong + " answers are not as due");
    if (wrong != 0) System.exit(1);
  }

  static IdealProver ideal(int variables, int kind, String... generators) {
    IdealProver a = new IdealProver(variables);
    a.order(kind);
    for (String g : generators) {
      Words.put(a, 39, g);
      a.generator(39);
    }
    a.zero(39);
    return a;
  }

  static String elements(IdealProver a) {
    StringBuilder b = new StringBuilder();
    for (int i = 0; a.element(i, 38) >= 0; i++) b.append(i == 0 ? "" : " ").append(Words.get(a, 38));
    return b.toString();
  }

  /** The cofactors of one element, that of generator 0 first. */
  static String shares(IdealProver a, int i) {
    StringBuilder b = new StringBuilder();
    for (int k = 0; a.share(i, k, 38) >= 0; k++) b.append(k == 0 ? "" : " ").append(Words.get(a, 38));
    return b.toString();
  }

  static String certificates(IdealProver a) {
    StringBuilder b = new StringBuilder();
    for (int k = 0; a.certificate(k, 38) >= 0; k++) b.append(k == 0 ? "" : " ").append(Words.get(a, 38));
    return b.toString();
  }

  static String dones(IdealProver a) {
    return a.done(0) + " " + a.done(1) + " " + a.done(2) + " " + a.done(3);
  }

  /** A sum of x^i y^j, 0 <= i < wide, 0 <= j < high. */
  static void grid(IdealProver a, int place, int wide, int high) {
    a.zero(place);
    for (int i = 0; i < wide; i++) for (int j = 0; j < high; j++) a.term(place, 1, 1, i | j << 8);
  }

  /** All that can be seen of an object; the object is of no use afterwards. */
  static String state(IdealProver a) {
    StringBuilder b = new StringBuilder();
    for (int p = 0; p < 40; p++) if (a.size(p) != 0) b.append(p).append(": ").append(Words.get(a, p)).append('\n');
    b.append("done ").append(dones(a)).append('\n');
    b.append("basis ").append(elements(a)).append('\n');
    for (int i = 0; a.share(i, 0, 38) >= 0; i++) b.append("shares ").append(shares(a, i)).append('\n');
    b.append("certificates ").append(certificates(a)).append('\n');
    b.append(a.stairs()).append(' ').append(a.check()).append(' ').append(a.free(1)).append(' ').append(a.order(0)).append('\n');
    b.append(a.basis(20000)).append(' ').append(elements(a)).append(' ').append(a.clear()).append('\n');
    return b.toString();
  }

  /** The call is refused so, and what can be seen afterwards is what can be seen without the call. */
  static void refused(Maker maker, String call, int want, Call made) {
    IdealProver a = maker.make();
    due(call, made.on(a), want);
    due("what is seen behind " + call, state(a), state(maker.make()));
  }
}
