/**
 * Ideals of polynomials in up to four variables over fractions: reduced bases with cofactors,
 * goals divided with certificates, radicals, staircases and points.
 *
 * <p>All rows are made in the constructor; no later call makes an object.
 */
public final class IdealProver {
    private static final int FINE = 0;
    private static final int NONE_SUCH = -1;
    private static final int OUTSIDE = -2;
    private static final int WRONG_STATE = -3;
    private static final int NO_ROOM = -4;
    private static final int SPENT = -6;
    private static final int FULL = -7;
    private static final int ENDLESS = -8;

    private static final int MOST_VARIABLES = 4;
    private static final int MOST_KIND = 2;
    private static final int PLACES = 40;
    private static final int MOST_TERMS = 100;
    private static final int MOST_EXPONENT = 30;
    private static final int MOST_PART = 1000000000;
    private static final int MOST_COORDINATE = 1000;
    private static final int MOST_GENERATORS = 8;
    private static final int MOST_ELEMENTS = 24;
    private static final int MOST_PAIRS = MOST_ELEMENTS * (MOST_ELEMENTS - 1) / 2;
    private static final int MOST_BASIS_STEPS = 20000;
    private static final int MOST_DIVIDE_STEPS = 5000;

    private final int variableCount;
    private final Order monomialOrder;
    private final Polynomial[] places;
    /** One slot more than there may be: radical() puts its own generator behind the others. */
    private final Polynomial[] generators;
    private int generatorCount;
    private final Ideal house;
    private boolean houseStands;
    private final Ideal guest;
    /** Divisions are tried here, so that a refused one leaves the proof alone. */
    private Division work;
    /** The latest division of a goal that was not refused. */
    private Division proof;
    private boolean proven;
    private final Polynomial sum;
    private final Polynomial product;
    private final int[] point;

    public IdealProver(int variables) {
        variableCount = variables < 1 ? 1 : variables > MOST_VARIABLES ? MOST_VARIABLES : variables;
        monomialOrder = new Order();
        places = row(PLACES, monomialOrder);
        generators = row(MOST_GENERATORS + 1, monomialOrder);
        house = new Ideal(monomialOrder, MOST_GENERATORS);
        guest = new Ideal(monomialOrder, 0);
        work = new Division(monomialOrder);
        proof = new Division(monomialOrder);
        sum = new Polynomial(monomialOrder);
        product = new Polynomial(monomialOrder);
        point = new int[MOST_VARIABLES];
    }

    public int variables() {
        return variableCount;
    }

    public int order(int kind) {
        if (kind < 0 || kind > MOST_KIND) {
            return OUTSIDE;
        }
        int before = monomialOrder.kind;
        monomialOrder.kind = kind;
        for (int i = 0; i < PLACES; i++) {
            places[i].arrange();
        }
        for (int i = 0; i < generatorCount; i++) {
            generators[i].arrange();
        }
        forgetBasis();
        return before;
    }

    // ---- polynomials

    public int term(int p, int over, int under, int powers) {
        if (!isPlace(p)) {
            return NONE_SUCH;
        }
        if (isLarge(over, MOST_PART) || isLarge(under, MOST_PART) || under == 0 || !isTold(powers)) {
            return OUTSIDE;
        }
        Polynomial there = places[p];
        if (over != 0) {
            long fraction = under < 0 ? Fraction.lowest(-over, -under) : Fraction.lowest(over, under);
            if (!there.come(fraction, powers)) {
                return FULL;
            }
        }
        return there.count;
    }

    public int zero(int p) {
        if (!isPlace(p)) {
            return NONE_SUCH;
        }
        int before = places[p].count;
        places[p].empty();
        return before;
    }

    public int size(int p) {
        return isPlace(p) ? places[p].count : NONE_SUCH;
    }

    public int told(int p, int i, int what) {
        if (!isPlace(p) || i < 0 || i >= places[p].count) {
            return NONE_SUCH;
        }
        switch (what) {
            case 0:
                return Fraction.over(places[p].fractions[i]);
            case 1:
                return Fraction.under(places[p].fractions[i]);
            case 2:
                return places[p].powers[i];
            default:
                return OUTSIDE;
        }
    }

    public int plus(int p, int q, int r) {
        if (!isPlace(p) || !isPlace(q) || !isPlace(r)) {
            return NONE_SUCH;
        }
        sum.become(places[p]);
        return sum.addMultiple(Fraction.ONE, 0, places[q]) ? put(sum, r) : FULL;
    }

    public int times(int p, int q, int r) {
        if (!isPlace(p) || !isPlace(q) || !isPlace(r)) {
            return NONE_SUCH;
        }
        return product.becomeProduct(places[p], places[q]) ? put(product, r) : FULL;
    }

    public int same(int p, int q) {
        if (!isPlace(p) || !isPlace(q)) {
            return NONE_SUCH;
        }
        return places[p].isLike(places[q]) ? 1 : 0;
    }

    public int vanishes(int p, int a, int b, int c, int d) {
        if (!isPlace(p)) {
            return NONE_SUCH;
        }
        point[0] = a;
        point[1] = b;
        point[2] = c;
        point[3] = d;
        for (int v = 0; v < variableCount; v++) {
            if (isLarge(point[v], MOST_COORDINATE)) {
                return OUTSIDE;
            }
        }
        long value = places[p].valueAt(point, variableCount);
        if (value == Fraction.NONE) {
            return FULL;
        }
        return value == Fraction.ZERO ? 1 : 0;
    }

    // ---- the ideal

    public int generator(int p) {
        if (!isPlace(p)) {
            return NONE_SUCH;
        }
        if (generatorCount >= MOST_GENERATORS) {
            return NO_ROOM;
        }
        generators[generatorCount].become(places[p]);
        generatorCount++;
        forgetBasis();
        return generatorCount - 1;
    }

    public int clear() {
        int before = generatorCount;
        generatorCount = 0;
        forgetBasis();
        return before;
    }

    public int basis(int steps) {
        if (steps < 0 || steps > MOST_BASIS_STEPS) {
            return OUTSIDE;
        }
        forgetBasis();
        int answer = house.build(generators, generatorCount, generatorCount, work, steps);
        if (answer != FINE) {
            return answer;
        }
        houseStands = true;
        return house.count;
    }

    public int done(int what) {
        switch (what) {
            case 0:
                return house.stepsBegun;
            case 1:
                return house.pairsTaken;
            case 2:
                return house.pairsPassedOver;
            case 3:
                return house.elementsMade;
            default:
                return OUTSIDE;
        }
    }

    public int element(int i, int r) {
        if (!houseStands) {
            return WRONG_STATE;
        }
        if (!isElement(i) || !isPlace(r)) {
            return NONE_SUCH;
        }
        return put(house.elements[i].body, r);
    }

    public int share(int i, int k, int r) {
        if (!houseStands) {
            return WRONG_STATE;
        }
        if (!isElement(i) || !isGenerator(k) || !isPlace(r)) {
            return NONE_SUCH;
        }
        return put(house.elements[i].cofactors[k], r);
    }

    public int divide(int p, int r) {
        if (!isPlace(p) || !isPlace(r)) {
            return NONE_SUCH;
        }
        if (!houseStands) {
            return WRONG_STATE;
        }
        work.allow(MOST_DIVIDE_STEPS);
        work.makeReady(house.count);
        work.dividend.become(places[p]);
        int answer = work.run(house.elements, house.count, -1);
        if (answer != FINE) {
            return answer;
        }
        Division latest = work;
        work = proof;
        proof = latest;
        proven = put(latest.rest, r) == 0;
        return proven ? 1 : 0;
    }

    public int certificate(int k, int r) {
        if (!houseStands || !proven) {
            return WRONG_STATE;
        }
        if (!isGenerator(k) || !isPlace(r)) {
            return NONE_SUCH;
        }
        sum.empty();
        for (int i = 0; i < house.count; i++) {
            if (!sum.addProduct(proof.quotients[i], house.elements[i].cofactors[k])) {
                return FULL;
            }
        }
        return put(sum, r);
    }

    public int check() {
        if (!houseStands) {
            return WRONG_STATE;
        }
        int answer = 1;
        for (int i = 0; i < house.count; i++) {
            Element each = house.elements[i];
            if (!sumUp(each.cofactors)) {
                return FULL;
            }
            if (!sum.isLike(each.body)) {
                answer = 0;
            }
        }
        return answer;
    }

    public int radical(int p, int steps) {
        if (!isPlace(p)) {
            return NONE_SUCH;
        }
        if (steps < 0 || steps > MOST_BASIS_STEPS) {
            return OUTSIDE;
        }
        if (variableCount >= MOST_VARIABLES) {
            return WRONG_STATE;
        }
        Polynomial last = generators[generatorCount];
        last.empty();
        if (!last.come(Fraction.ONE, 0)
                || !last.addMultiple(Fraction.MINUS_ONE, Monomial.single(variableCount), places[p])) {
            return FULL;
        }
        int answer = guest.build(generators, generatorCount + 1, 0, work, steps);
        if (answer != FINE) {
            return answer;
        }
        return guest.isWhole() ? 1 : 0;
    }

    public int free(int k) {
        if (k < 0 || k > variableCount) {
            return OUTSIDE;
        }
        if (!houseStands) {
            return WRONG_STATE;
        }
        int found = 0;
        for (int i = 0; i < house.count; i++) {
            if (house.elements[i].body.isWithout(k)) {
                found++;
            }
        }
        return found;
    }

    public int stairs() {
        return houseStands ? house.countBelow(variableCount) : WRONG_STATE;
    }

    // ---- helpers of the face

    private static Polynomial[] row(int length, Order order) {
        Polynomial[] made = new Polynomial[length];
        for (int i = 0; i < length; i++) {
            made[i] = new Polynomial(order);
        }
        return made;
    }

    private static boolean isPlace(int p) {
        return p >= 0 && p < PLACES;
    }

    private static boolean isLarge(int number, int most) {
        return number > most || number < -most;
    }

    private boolean isTold(int powers) {
        if (!Monomial.isInside(powers)) {
            return false;
        }
        for (int v = variableCount; v < MOST_VARIABLES; v++) {
            if (Monomial.exponent(powers, v) != 0) {
                return false;
            }
        }
        return true;
    }

    private boolean isElement(int i) {
        return i >= 0 && i < house.count;
    }

    private boolean isGenerator(int k) {
        return k >= 0 && k < generatorCount;
    }

    private int put(Polynomial what, int r) {
        places[r].become(what);
        return what.count;
    }

    private void forgetBasis() {
        houseStands = false;
        proven = false;
    }

    /** The sum of the cofactors TIMES the generators; false when it is FULL. */
    private boolean sumUp(Polynomial[] cofactors) {
        sum.empty();
        for (int k = 0; k < generatorCount; k++) {
            if (!product.becomeProduct(cofactors[k], generators[k])
                    || !sum.addMultiple(Fraction.ONE, 0, product)) {
                return false;
            }
        }
        return true;
    }

    /** A fraction is one long, so that reckoning makes no objects: numerator above, denominator below. */
    private static final class Fraction {
        /** Stands for a fraction that is FULL; no real one has the denominator 0. */
        static final long NONE = 0L;
        static final long ZERO = 1L;
        static final long ONE = (1L << 32) | 1L;
        static final long MINUS_ONE = (-1L << 32) | 1L;
        /** Far above the turns that Euclid's way needs for two longs. */
        private static final int MOST_TURNS = 200;

        static int over(long fraction) {
            return (int) (fraction >> 32);
        }

        static int under(long fraction) {
            return (int) fraction;
        }

        /** In lowest terms; the denominator given is above 0. Both parts of a sum or product fit a long. */
        static long lowest(long over, long under) {
            long common = over < 0 ? -over : over;
            long rest = under;
            for (int turn = 0; turn < MOST_TURNS && rest != 0; turn++) {
                long next = common % rest;
                common = rest;
                rest = next;
            }
            long top = over;
            long bottom = under;
            if (common > 1) {
                top = over / common;
                bottom = under / common;
            }
            if (top > MOST_PART || top < -MOST_PART || bottom > MOST_PART || bottom <= 0) {
                return NONE;
            }
            return (top << 32) | bottom;
        }

        static long sum(long a, long b) {
            long over = (long) over(a) * under(b) + (long) over(b) * under(a);
            return lowest(over, (long) under(a) * under(b));
        }

        static long product(long a, long b) {
            return lowest((long) over(a) * over(b), (long) under(a) * under(b));
        }

        static long negative(long a) {
            return ((long) -over(a) << 32) | under(a);
        }

        /** Of a fraction that is not 0. */
        static long inverse(long a) {
            long over = over(a);
            long under = under(a);
            return over < 0 ? (-under << 32) | -over : (under << 32) | over;
        }
    }

    /** A monomial is one int: a byte for each variable, that of variable 0 the lowest. */
    private static final class Monomial {
        private static final int HIGH_BITS = 0x80808080;
        private static final int ABOVE_31 = 0xE0E0E0E0;
        private static final int ONES = 0x01010101;

        static int exponent(int powers, int variable) {
            return (powers >>> (8 * variable)) & 255;
        }

        static int single(int variable) {
            return 1 << (8 * variable);
        }

        /** No byte is above 30: none above 31, and none becomes 32 by 1 more. */
        static boolean isInside(int powers) {
            return (powers & ABOVE_31) == 0 && ((powers + ONES) & ABOVE_31) == 0;
        }

        /** A byte's high bit is borrowed from just where the divisor's exponent is greater. */
        static boolean divides(int divisor, int powers) {
            return (((powers | HIGH_BITS) - divisor) & HIGH_BITS) == HIGH_BITS;
        }

        static int leastCommon(int a, int b) {
            int common = 0;
            for (int v = 0; v < MOST_VARIABLES; v++) {
                int mask = 255 << (8 * v);
                common |= exponent(a, v) >= exponent(b, v) ? a & mask : b & mask;
            }
            return common;
        }

        static boolean haveVariableInCommon(int a, int b) {
            for (int v = 0; v < MOST_VARIABLES; v++) {
                if (exponent(a, v) != 0 && exponent(b, v) != 0) {
                    return true;
                }
            }
            return false;
        }
    }

    /** The kind of order, one object for all polynomials of a house. */
    private static final class Order {
        int kind;

        /** The greater monomial has the greater rank, and no two have the same; none is below 0. */
        int rank(int powers) {
            int first = powers & 255;
            int second = (powers >>> 8) & 255;
            int third = (powers >>> 16) & 255;
            int fourth = (powers >>> 24) & 255;
            if (kind == 0) {
                return first << 24 | second << 16 | third << 8 | fourth;
            }
            int bySum = (first + second + third + fourth) << 15
                    | (MOST_EXPONENT - fourth) << 10
                    | (MOST_EXPONENT - third) << 5
                    | (MOST_EXPONENT - second);
            return kind == 1 ? bySum : first << 22 | bySum;
        }
    }

    /** Terms from the greatest on. Methods that answer a boolean answer false when it is FULL. */
    private static final class Polynomial {
        /** Halvings after which a place among all the terms is found. */
        private static final int MOST_HALVINGS = 8;

        final Order order;
        final long[] fractions;
        final int[] powers;
        final int[] ranks;
        int count;

        Polynomial(Order order) {
            this.order = order;
            fractions = new long[MOST_TERMS];
            powers = new int[MOST_TERMS];
            ranks = new int[MOST_TERMS];
        }

        void empty() {
            count = 0;
        }

        void become(Polynomial other) {
            count = other.count;
            System.arraycopy(other.fractions, 0, fractions, 0, count);
            System.arraycopy(other.powers, 0, powers, 0, count);
            System.arraycopy(other.ranks, 0, ranks, 0, count);
        }

        boolean isLike(Polynomial other) {
            if (count != other.count) {
                return false;
            }
            for (int i = 0; i < count; i++) {
                if (powers[i] != other.powers[i] || fractions[i] != other.fractions[i]) {
                    return false;
                }
            }
            return true;
        }

        /** Whether no term has one of the first so many variables. */
        boolean isWithout(int variables) {
            for (int i = 0; i < count; i++) {
                for (int v = 0; v < variables; v++) {
                    if (Monomial.exponent(powers[i], v) != 0) {
                        return false;
                    }
                }
            }
            return true;
        }

        /** The term COMES; when that is FULL nothing is changed. */
        boolean come(long fraction, int monomial) {
            int rank = order.rank(monomial);
            int at = find(rank);
            if (at < count && ranks[at] == rank) {
                long total = Fraction.sum(fractions[at], fraction);
                if (total == Fraction.ZERO) {
                    shift(at + 1, at);
                } else if (total != Fraction.NONE) {
                    fractions[at] = total;
                }
                return total != Fraction.NONE;
            }
            if (count >= MOST_TERMS) {
                return false;
            }
            shift(at, at + 1);
            fractions[at] = fraction;
            powers[at] = monomial;
            ranks[at] = rank;
            return true;
        }

        /** The first term whose rank is not above this one. */
        private int find(int rank) {
            int low = 0;
            int high = count;
            for (int turn = 0; turn < MOST_HALVINGS && low < high; turn++) {
                int middle = (low + high) >>> 1;
                if (ranks[middle] > rank) {
                    low = middle + 1;
                } else {
                    high = middle;
                }
            }
            return low;
        }

        /** Terms from one on stand elsewhere: one further to make room, one nearer over one that goes. */
        private void shift(int from, int to) {
            System.arraycopy(fractions, from, fractions, to, count - from);
            System.arraycopy(powers, from, powers, to, count - from);
            System.arraycopy(ranks, from, ranks, to, count - from);
            count += to - from;
        }

        /** The leading term goes, if there is one. */
        void behead() {
            if (count > 0) {
                shift(1, 0);
            }
        }

        /** This PLUS u g, u having the fraction and the monomial. */
        boolean addMultiple(long fraction, int monomial, Polynomial g) {
            for (int i = 0; i < g.count; i++) {
                int exponents = g.powers[i] + monomial;
                if (!Monomial.isInside(exponents)) {
                    return false;
                }
                long factor = Fraction.product(g.fractions[i], fraction);
                if (factor == Fraction.NONE || !come(factor, exponents)) {
                    return false;
                }
            }
            return true;
        }

        /** This PLUS u g for each term u of f. */
        boolean addProduct(Polynomial f, Polynomial g) {
            for (int i = 0; i < f.count; i++) {
                if (!addMultiple(f.fractions[i], f.powers[i], g)) {
                    return false;
                }
            }
            return true;
        }

        boolean becomeProduct(Polynomial f, Polynomial g) {
            empty();
            return addProduct(f, g);
        }

        boolean multiply(long factor) {
            for (int i = 0; i < count; i++) {
                long scaled = Fraction.product(fractions[i], factor);
                if (scaled == Fraction.NONE) {
                    return false;
                }
                fractions[i] = scaled;
            }
            return true;
        }

        /** Sorts anew, for the order's kind is another one now. */
        void arrange() {
            for (int i = 0; i < count; i++) {
                long fraction = fractions[i];
                int monomial = powers[i];
                int rank = order.rank(monomial);
                int at = i;
                for (; at > 0 && ranks[at - 1] < rank; at--) {
                    fractions[at] = fractions[at - 1];
                    powers[at] = powers[at - 1];
                    ranks[at] = ranks[at - 1];
                }
                fractions[at] = fraction;
                powers[at] = monomial;
                ranks[at] = rank;
            }
        }

        /** The value at a point, NONE when it is FULL. */
        long valueAt(int[] point, int variables) {
            long total = Fraction.ZERO;
            for (int i = 0; i < count; i++) {
                long value = termAt(i, point, variables);
                if (value == Fraction.NONE) {
                    return Fraction.NONE;
                }
                total = Fraction.sum(total, value);
                if (total == Fraction.NONE) {
                    return Fraction.NONE;
                }
            }
            return total;
        }

        private long termAt(int i, int[] point, int variables) {
            long value = fractions[i];
            for (int v = 0; v < variables; v++) {
                int exponent = Monomial.exponent(powers[i], v);
                long number = Fraction.lowest(point[v], 1);
                for (int time = 0; time < exponent; time++) {
                    value = Fraction.product(value, number);
                    if (value == Fraction.NONE) {
                        return Fraction.NONE;
                    }
                }
            }
            return value;
        }
    }

    /** A polynomial with its cofactors, one for each generator. */
    private static final class Element {
        final Polynomial body;
        final Polynomial[] cofactors;

        Element(Order order, int width) {
            body = new Polynomial(order);
            cofactors = row(width, order);
        }

        int leading() {
            return body.powers[0];
        }

        boolean makeMonic(int shares) {
            long factor = Fraction.inverse(body.fractions[0]);
            if (!body.multiply(factor)) {
                return false;
            }
            for (int k = 0; k < shares; k++) {
                if (!cofactors[k].multiply(factor)) {
                    return false;
                }
            }
            return true;
        }
    }

    /** A dividend on its way, with the quotient of each element and the rest. */
    private static final class Division {
        final Polynomial dividend;
        final Polynomial rest;
        final Polynomial[] quotients;
        int steps;
        private int limit;

        Division(Order order) {
            dividend = new Polynomial(order);
            rest = new Polynomial(order);
            quotients = row(MOST_ELEMENTS, order);
        }

        void allow(int limit) {
            this.limit = limit;
            steps = 0;
        }

        void makeReady(int count) {
            dividend.empty();
            rest.empty();
            for (int i = 0; i < count; i++) {
                quotients[i].empty();
            }
        }

        /** Divides by the elements of the row but the one left out: FINE, SPENT or FULL. */
        int run(Element[] row, int count, int leftOut) {
            while (dividend.count > 0 && steps < limit) {
                steps++;
                long fraction = dividend.fractions[0];
                int monomial = dividend.powers[0];
                int at = firstDivisor(row, count, leftOut);
                if (at < 0) {
                    dividend.behead();
                    if (!rest.come(fraction, monomial)) {
                        return FULL;
                    }
                } else {
                    // Elements are monic, so the fraction of the quotient's term is the dividend's.
                    int quotient = monomial - row[at].leading();
                    if (!dividend.addMultiple(Fraction.negative(fraction), quotient, row[at].body)
                            || !quotients[at].come(fraction, quotient)) {
                        return FULL;
                    }
                }
            }
            return dividend.count > 0 ? SPENT : FINE;
        }

        private int firstDivisor(Element[] row, int count, int leftOut) {
            for (int i = 0; i < count; i++) {
                if (i != leftOut && Monomial.divides(row[i].leading(), dividend.powers[0])) {
                    return i;
                }
            }
            return -1;
        }
    }

    /** Makes a reduced basis and holds it. */
    private static final class Ideal {
        private static final int NO_LONGER = -1;

        final Order order;
        /** One more than there may be: the next one is made there. */
        final Element[] elements;
        int count;
        int stepsBegun;
        int pairsTaken;
        int pairsPassedOver;
        int elementsMade;
        /** Of each pair that waits the rank of its least common monomial, else NO_LONGER. */
        private final int[] waiting;
        private int left;
        private int right;
        private int shares;

        Ideal(Order order, int width) {
            this.order = order;
            elements = new Element[MOST_ELEMENTS + 1];
            for (int i = 0; i <= MOST_ELEMENTS; i++) {
                elements[i] = new Element(order, width);
            }
            waiting = new int[MOST_ELEMENTS * MOST_ELEMENTS];
        }

        /** The basis with cofactors for so many generators (all or none): FINE, SPENT or FULL. */
        int build(Polynomial[] generators, int generatorCount, int cofactorCount,
                Division division, int limit) {
            begin(cofactorCount);
            division.allow(limit);
            int answer = adopt(generators, generatorCount);
            for (int turn = 0; turn < MOST_PAIRS && answer == FINE && choosePair(); turn++) {
                answer = settlePair(division);
            }
            elementsMade = count;
            if (answer == FINE) {
                dropNeedless();
                sortElements();
            }
            for (int i = 0; i < count && answer == FINE; i++) {
                answer = reduceElement(i, division);
            }
            stepsBegun = division.steps;
            return answer;
        }

        private void begin(int cofactorCount) {
            shares = cofactorCount;
            count = 0;
            pairsTaken = 0;
            pairsPassedOver = 0;
        }

        private int adopt(Polynomial[] generators, int generatorCount) {
            for (int g = 0; g < generatorCount; g++) {
                if (generators[g].count > 0) {
                    Element next = elements[count];
                    next.body.become(generators[g]);
                    for (int k = 0; k < shares; k++) {
                        next.cofactors[k].empty();
                    }
                    if (g < shares && !next.cofactors[g].come(Fraction.ONE, 0)) {
                        return FULL;
                    }
                    if (!next.makeMonic(shares)) {
                        return FULL;
                    }
                    add();
                }
            }
            return FINE;
        }

        /** The element that was made behind the last one is one of them from now on. */
        private void add() {
            for (int i = 0; i < count; i++) {
                int common = Monomial.leastCommon(elements[i].leading(), elements[count].leading());
                waiting[count * MOST_ELEMENTS + i] = order.rank(common);
            }
            count++;
        }

        private boolean choosePair() {
            int best = NO_LONGER;
            for (int j = 1; j < count; j++) {
                for (int i = 0; i < j; i++) {
                    int rank = waiting[j * MOST_ELEMENTS + i];
                    if (rank != NO_LONGER && (best == NO_LONGER || rank < best)) {
                        best = rank;
                        left = i;
                        right = j;
                    }
                }
            }
            return best != NO_LONGER;
        }

        private int settlePair(Division division) {
            waiting[right * MOST_ELEMENTS + left] = NO_LONGER;
            pairsTaken++;
            int common = Monomial.leastCommon(elements[left].leading(), elements[right].leading());
            if (isNeedless(common)) {
                pairsPassedOver++;
                return FINE;
            }
            division.makeReady(count);
            if (!crossOut(common, division.dividend)) {
                return FULL;
            }
            int answer = division.run(elements, count, -1);
            if (answer != FINE || division.rest.count == 0) {
                return answer;
            }
            Element next = elements[count];
            next.body.become(division.rest);
            if (count >= MOST_ELEMENTS || !takeQuotients(next, division) || !next.makeMonic(shares)) {
                return FULL;
            }
            add();
            return FINE;
        }

        private boolean isNeedless(int common) {
            if (!Monomial.haveVariableInCommon(elements[left].leading(), elements[right].leading())) {
                return true;
            }
            for (int k = 0; k < count; k++) {
                if (k != left && k != right && Monomial.divides(elements[k].leading(), common)
                        && !isWaiting(k, left) && !isWaiting(k, right)) {
                    return true;
                }
            }
            return false;
        }

        private boolean isWaiting(int a, int b) {
            int at = a < b ? b * MOST_ELEMENTS + a : a * MOST_ELEMENTS + b;
            return waiting[at] != NO_LONGER;
        }

        /** The pair's difference, its cofactors in those of the next element. */
        private boolean crossOut(int common, Polynomial difference) {
            Element first = elements[left];
            Element second = elements[right];
            int x = common - first.leading();
            int y = common - second.leading();
            if (!difference.addMultiple(Fraction.ONE, x, first.body)
                    || !difference.addMultiple(Fraction.MINUS_ONE, y, second.body)) {
                return false;
            }
            for (int k = 0; k < shares; k++) {
                Polynomial cofactor = elements[count].cofactors[k];
                cofactor.empty();
                if (!cofactor.addMultiple(Fraction.ONE, x, first.cofactors[k])
                        || !cofactor.addMultiple(Fraction.MINUS_ONE, y, second.cofactors[k])) {
                    return false;
                }
            }
            return true;
        }

        /** Takes from the cofactors what the division took from the polynomial. */
        private boolean takeQuotients(Element from, Division division) {
            for (int k = 0; k < shares; k++) {
                Polynomial cofactor = from.cofactors[k];
                for (int i = 0; i < count; i++) {
                    Polynomial quotient = division.quotients[i];
                    for (int t = 0; t < quotient.count; t++) {
                        long minus = Fraction.negative(quotient.fractions[t]);
                        if (!cofactor.addMultiple(minus, quotient.powers[t], elements[i].cofactors[k])) {
                            return false;
                        }
                    }
                }
            }
            return true;
        }

        /** Those go whose leading monomial another one's divides; their rows stay behind the others. */
        private void dropNeedless() {
            int kept = 0;
            for (int i = 0; i < count; i++) {
                if (!isCovered(i, kept)) {
                    Element stays = elements[i];
                    elements[i] = elements[kept];
                    elements[kept] = stays;
                    kept++;
                }
            }
            count = kept;
        }

        /** Looks at those that stayed and those to come: one that went has one that stays dividing it. */
        private boolean isCovered(int i, int kept) {
            int leading = elements[i].leading();
            for (int k = 0; k < kept; k++) {
                if (Monomial.divides(elements[k].leading(), leading)) {
                    return true;
                }
            }
            for (int k = i + 1; k < count; k++) {
                int later = elements[k].leading();
                if (later != leading && Monomial.divides(later, leading)) {
                    return true;
                }
            }
            return false;
        }

        private void sortElements() {
            for (int i = 1; i < count; i++) {
                Element each = elements[i];
                int rank = order.rank(each.leading());
                int at = i;
                for (; at > 0 && order.rank(elements[at - 1].leading()) > rank; at--) {
                    elements[at] = elements[at - 1];
                }
                elements[at] = each;
            }
        }

        private int reduceElement(int i, Division division) {
            Element each = elements[i];
            int leading = each.leading();
            division.makeReady(count);
            division.dividend.become(each.body);
            division.dividend.behead();
            int answer = division.run(elements, count, i);
            if (answer != FINE) {
                return answer;
            }
            if (!takeQuotients(each, division)) {
                return FULL;
            }
            each.body.become(division.rest);
            return each.body.come(Fraction.ONE, leading) ? FINE : FULL;
        }

        /** Whether the basis is 1 alone. */
        boolean isWhole() {
            return count == 1 && elements[0].leading() == 0;
        }

        /** How many monomials no leading one divides, or ENDLESS. */
        int countBelow(int variables) {
            int first = wall(0, variables);
            int second = wall(1, variables);
            int third = wall(2, variables);
            int fourth = wall(3, variables);
            if (first < 0 || second < 0 || third < 0 || fourth < 0) {
                return ENDLESS;
            }
            int total = 0;
            for (int a = 0; a < first; a++) {
                for (int b = 0; b < second; b++) {
                    for (int c = 0; c < third; c++) {
                        total += height(a | b << 8 | c << 16, fourth);
                    }
                }
            }
            return total;
        }

        /** The least power of the variable alone that is a leading monomial, -1 without one. */
        private int wall(int variable, int variables) {
            if (variable >= variables) {
                return 1;
            }
            int least = -1;
            for (int i = 0; i < count; i++) {
                int leading = elements[i].leading();
                int exponent = Monomial.exponent(leading, variable);
                if (leading == exponent << (8 * variable) && (least < 0 || exponent < least)) {
                    least = exponent;
                }
            }
            return least;
        }

        /** How many exponents of variable 3 stand above these of the others, under a ceiling. */
        private int height(int ground, int ceiling) {
            int least = ceiling;
            for (int i = 0; i < count; i++) {
                int leading = elements[i].leading();
                if (Monomial.divides(leading & 0xFFFFFF, ground)) {
                    least = Math.min(least, Monomial.exponent(leading, 3));
                }
            }
            return least;
        }
    }
}
