/** Polynomials as words such as "x^2+1/2*x*y-1", put into places by term() and read back by told(). */
final class Words {
  private static final String LETTERS = "xyzw";

  private Words() { }

  static void put(IdealProver a, int place, String words) {
    a.zero(place);
    if (words.equals("0")) return;
    for (String term : words.replace("-", "+-").split("\\+")) if (!term.isEmpty()) putTerm(a, place, term);
  }

  private static void putTerm(IdealProver a, int place, String term) {
    int over = 1;
    int under = 1;
    int powers = 0;
    String rest = term;
    if (rest.startsWith("-")) { over = -1; rest = rest.substring(1); }
    for (String part : rest.split("\\*")) {
      int letter = LETTERS.indexOf(part.charAt(0));
      if (letter >= 0) {
        powers += (part.length() > 1 ? Integer.parseInt(part.substring(2)) : 1) << 8 * letter;
      } else {
        String[] both = part.split("/");
        over *= Integer.parseInt(both[0]);
        if (both.length > 1) under = Integer.parseInt(both[1]);
      }
    }
    int answer = a.term(place, over, under, powers);
    if (answer < 0) throw new IllegalStateException("term " + term + " was refused: " + answer);
  }

  static String get(IdealProver a, int place) {
    StringBuilder b = new StringBuilder();
    int count = a.size(place);
    for (int i = 0; i < count; i++) {
      int over = a.told(place, i, 0);
      int under = a.told(place, i, 1);
      int powers = a.told(place, i, 2);
      if (i > 0 && over > 0) b.append('+');
      if (over < 0) b.append('-');
      String number = (over < 0 ? -over : over) + (under == 1 ? "" : "/" + under);
      boolean one = number.equals("1") && powers != 0;
      if (!one) b.append(number);
      boolean star = !one;
      for (int v = 0; v < 4; v++) {
        int e = powers >>> 8 * v & 255;
        if (e == 0) continue;
        if (star) b.append('*');
        star = true;
        b.append(LETTERS.charAt(v));
        if (e > 1) b.append('^').append(e);
      }
    }
    return b.length() == 0 ? "0" : b.toString();
  }
}
