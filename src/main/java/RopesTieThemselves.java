/** Ropes that tie themselves to the heavier; ../shared/DOC.md tells what each call answers. */
public final class RopesTieThemselves {

    private static final int NONE = -9;
    private static final int FINE = 0;
    private static final int NOBODY = -1;
    private static final int OTHER = -2;
    private static final int STATE = -3;
    private static final int BELOW = -4;
    private static final int ROOM = -6;
    private static final int REFUSAL_KINDS = 6;
    private static final long LONG_REFUSAL = 4000000000000000000L;

    private static final int MOST_THINGS = 8;
    private static final int MOST_ROPES = 6;
    private static final int MOST_FIGURE = 9;
    private static final int MOST_WEIGHT = 60;
    private static final int MOST_STONES = 9;
    private static final int MOST_HEIGHT = 20;
    private static final int LAST_HOUR = 999;
    private static final int MOST_HOURS_AT_ONCE = 60;
    private static final int MOST_HOURS_AHEAD = 99;
    private static final int MOST_HOURS_PLANNED = 30;
    private static final int MOST_LETTERS = 96;
    private static final int MOST_LETTER = 255;
    private static final int MOST_TOLD = 16;
    private static final int MOST_TOLD_NUMBER = 99;
    private static final int MOST_WET_HOURS = 7;
    private static final int LEAST_ODDS = 2;
    private static final int MOST_ODDS = 20;
    private static final int MOST_LOTS = 20;
    private static final int LOT_HOURS = 10;
    private static final int STONES_EATEN = 2;
    /** More than any two hefts, or sides of a tug, are apart. */
    private static final int FAR_APART = 1000000;

    private static final String KIND_LETTERS = "tpbsfi";
    private static final int KINDS = 6;
    private static final int PERSON = 1;
    private static final int BAKER = 2;
    private static final int SMUGGLER = 3;
    private static final int FEATHERS = 4;
    private static final int SHIP = 5;

    private final Port now = new Port();
    private final Port kept = new Port();
    private boolean hasKept = false;
    private final Told told = new Told();
    private final Letters letters = new Letters();
    private final Mind mind = new Mind();
    private final int[] refusals = new int[REFUSAL_KINDS + 1];

    public RopesTieThemselves() {
    }

    // ---- a port told in letters

    public int letter(int c) {
        int fault = rangeFault(c, 0, MOST_LETTER);
        if (fault == FINE && letters.size >= MOST_LETTERS) {
            fault = ROOM;
        }
        if (fault != FINE) {
            return refuse(fault);
        }
        return letters.add(c);
    }

    public int port() {
        // All of it is tried in thought first: with a fault nothing may come.
        Port then = mind.begin(now);
        int answer = letters.tellTo(then);
        letters.size = 0;
        if (answer >= 0) {
            now.copyFrom(then);
        }
        return answer;
    }

    // ---- what there is, and its changes

    public int thing(int thing, int what) {
        if (!now.hasThing(thing)) {
            return refuse(NOBODY);
        }
        switch (what) {
            case 0:
                return now.kind[thing];
            case 1:
                return now.figure[thing];
            case 2:
                return now.weight[thing];
            case 3:
                return now.stones[thing];
            case 4:
                return now.height[thing];
            case 5:
                return now.heftOf(thing);
            default:
                return refuse(OTHER);
        }
    }

    public int rope(int rope, int what) {
        if (!now.hasRope(rope)) {
            return refuse(NOBODY);
        }
        switch (what) {
            case 0:
                return now.one[rope];
            case 1:
                return now.other[rope];
            case 2:
                return now.heavierEnd(rope);
            default:
                return refuse(OTHER);
        }
    }

    public int ties(int one, int other) {
        if (!now.hasPair(one, other)) {
            return refuse(NOBODY);
        }
        if (now.ropes >= MOST_ROPES) {
            return refuse(ROOM);
        }
        return now.addRope(one, other);
    }

    public int cuts(int rope) {
        if (!now.hasRope(rope)) {
            return refuse(NOBODY);
        }
        return now.dropRope(rope);
    }

    public int stones(int thing, int v) {
        int fault = thingFault(thing, v, MOST_STONES);
        if (fault != FINE) {
            return refuse(fault);
        }
        int was = now.stones[thing];
        now.stones[thing] = v;
        return was;
    }

    public int weighs(int thing, int v) {
        int fault = thingFault(thing, v, MOST_WEIGHT);
        if (fault != FINE) {
            return refuse(fault);
        }
        int was = now.weight[thing];
        now.weight[thing] = v;
        return was;
    }

    public int lifts(int thing, int v) {
        int fault = thingFault(thing, v, MOST_HEIGHT);
        if (fault != FINE) {
            return refuse(fault);
        }
        int was = now.height[thing];
        now.height[thing] = v;
        return was;
    }

    public int turn(int thing, int kind, int figure) {
        if (!now.hasThing(thing)) {
            return refuse(NOBODY);
        }
        if (kind < 0 || kind >= KINDS) {
            return refuse(OTHER);
        }
        int fault = rangeFault(figure, 0, MOST_FIGURE);
        if (fault != FINE) {
            return refuse(fault);
        }
        int was = 10 * now.kind[thing] + now.figure[thing];
        now.kind[thing] = kind;
        now.figure[thing] = figure;
        return was;
    }

    public int hours(int n) {
        int fault = rangeFault(n, 1, MOST_HOURS_AT_ONCE);
        if (fault == FINE && now.hour + n > LAST_HOUR) {
            fault = ROOM;
        }
        if (fault != FINE) {
            return refuse(fault);
        }
        now.goHours(n);
        return now.allHeights();
    }

    // ---- in mind, hours on

    public int thingThen(int thing, int n, int what) {
        int fault = thingFault(thing, n, MOST_HOURS_AHEAD);
        if (fault == FINE && what != 0 && what != 1) {
            fault = OTHER;
        }
        if (fault != FINE) {
            return refuse(fault);
        }
        Port then = mind.behind(now, n);
        return what == 0 ? then.height[thing] : then.heftOf(thing);
    }

    public int ropeThen(int rope, int n) {
        if (!now.hasRope(rope)) {
            return refuse(NOBODY);
        }
        int fault = rangeFault(n, 0, MOST_HOURS_AHEAD);
        if (fault != FINE) {
            return refuse(fault);
        }
        return mind.behind(now, n).heavierEnd(rope);
    }

    public int up(int thing, int v) {
        int fault = thingFault(thing, v, MOST_HEIGHT);
        if (fault != FINE) {
            return refuse(fault);
        }
        return mind.whenUp(now, thing, v);
    }

    public int first(int what) {
        switch (what) {
            case 0:
                return mind.whoFirst(now);
            case 1:
                return mind.whenFirst(now);
            case 2:
                return mind.whenRest(now);
            default:
                return refuse(OTHER);
        }
    }

    public int changes(int rope) {
        if (!now.hasRope(rope)) {
            return refuse(NOBODY);
        }
        return mind.whenOtherwise(now, rope);
    }

    public int throwsDown(int thing, int v, int n) {
        int fault = aimFault(thing, v, n);
        if (fault != FINE) {
            return refuse(fault);
        }
        return mind.fewestLess(now, thing, v, n);
    }

    public int takesUp(int thing, int v, int n) {
        int fault = aimFault(thing, v, n);
        if (fault != FINE) {
            return refuse(fault);
        }
        return mind.fewestMore(now, thing, v, n);
    }

    public int bestTie(int thing, int n) {
        int fault = thingFault(thing, n, MOST_HOURS_PLANNED);
        if (fault != FINE) {
            return refuse(fault);
        }
        return mind.highestByTie(now, thing, n);
    }

    public int bestCut(int thing, int n) {
        int fault = thingFault(thing, n, MOST_HOURS_PLANNED);
        if (fault != FINE) {
            return refuse(fault);
        }
        return mind.highestByCut(now, thing, n);
    }

    public int bestStone(int n) {
        int fault = rangeFault(n, 0, MOST_HOURS_PLANNED);
        if (fault != FINE) {
            return refuse(fault);
        }
        return mind.highestByStone(now, n);
    }

    // ---- by heft

    public int rows(int i) {
        if (i < 0) {
            return refuse(BELOW);
        }
        return Scale.ranked(now, i);
    }

    public int between(int one, int other) {
        if (!now.hasPair(one, other)) {
            return refuse(NOBODY);
        }
        return Scale.countInside(now, one, other);
    }

    public int balance(int thing) {
        if (!now.hasThing(thing)) {
            return refuse(NOBODY);
        }
        return Scale.counterweight(now, thing);
    }

    public int nearest(int thing) {
        if (!now.hasThing(thing)) {
            return refuse(NOBODY);
        }
        return Scale.mostAlike(now, thing);
    }

    public int sides(int what) {
        if (what != 0 && what != 1) {
            return refuse(OTHER);
        }
        int side = Scale.firstSide(now);
        return what == 0 || side == NONE ? side : Scale.apart(now, side);
    }

    // ---- by ropes

    public int chain(int thing) {
        if (!now.hasThing(thing)) {
            return refuse(NOBODY);
        }
        return Net.hangingWith(now, thing);
    }

    public int chains(int what) {
        switch (what) {
            case 0:
                return Net.pieces(now);
            case 1:
                return Net.greatestPiece(now);
            case 2:
                return Net.hasRing(now) ? 1 : 0;
            default:
                return refuse(OTHER);
        }
    }

    public int hauled(int one, int other) {
        if (!now.hasPair(one, other)) {
            return refuse(NOBODY);
        }
        return hasBit(Net.heavierThan(now, one), other) ? 1 : 0;
    }

    public int top(int thing) {
        if (!now.hasThing(thing)) {
            return refuse(NOBODY);
        }
        return Net.heaviestAbove(now, thing);
    }

    public int odd() {
        return now.looseRopes();
    }

    // ---- two of them, odds, lots

    public int meet(int one, int other) {
        if (!now.hasPair(one, other)) {
            return refuse(NOBODY);
        }
        return mind.whenLevel(now, one, other);
    }

    public int two(int a, int b, int n) {
        if (!now.hasPair(a, b)) {
            return refuse(NOBODY);
        }
        int fault = rangeFault(n, 0, MOST_HOURS_PLANNED);
        if (fault != FINE) {
            return refuse(fault);
        }
        return mind.steadyPair(now, a, b, n);
    }

    public long wet(int rope, int thing, int n, int t, int v, int part) {
        int fault = wetFault(rope, thing, n, t, v);
        if (fault == FINE && part != 0 && part != 1) {
            fault = OTHER;
        }
        if (fault != FINE) {
            return refuseLong(fault);
        }
        long above = mind.wetCases(now, rope, thing, n, t, v);
        return inLeastTerms(above, power(t, n), part);
    }

    public long mean(int part) {
        if (part != 0 && part != 1) {
            return refuseLong(OTHER);
        }
        // Of nothing it is told as 0 by 1.
        return inLeastTerms(now.allHeights(), Math.max(1, now.things), part);
    }

    public int lots(int n, int z, int what) {
        int fault = rangeFault(n, 1, MOST_LOTS);
        if (fault == FINE && what != 0 && what != 1) {
            fault = OTHER;
        }
        if (fault != FINE) {
            return refuse(fault);
        }
        return mind.byLot(now, n, z, what == 0);
    }

    // ---- the row of told numbers

    public int whatIs(int thing, int what) {
        if (!now.hasThing(thing)) {
            return refuse(NOBODY);
        }
        switch (what) {
            case 0:
                return mind.kindsAsTold(now, thing, told);
            case 1:
                return mind.weightsAsTold(now, thing, told);
            default:
                return refuse(OTHER);
        }
    }

    public int row(int v) {
        int fault = rangeFault(v, 0, MOST_TOLD_NUMBER);
        if (fault == FINE && told.size >= MOST_TOLD) {
            fault = ROOM;
        }
        if (fault != FINE) {
            return refuse(fault);
        }
        return told.add(v);
    }

    public int judge() {
        int place = told.firstWrong(now);
        told.size = 0;
        return place;
    }

    public int clear() {
        int had = told.size;
        told.size = 0;
        return had;
    }

    // ---- the image, and counts

    public int image() {
        kept.copyFrom(now);
        hasKept = true;
        return now.hour;
    }

    public int on() {
        if (!hasKept) {
            return refuse(STATE);
        }
        now.copyFrom(kept);
        return now.hour;
    }

    public int count(int what) {
        switch (what) {
            case 0:
                return now.things;
            case 1:
                return now.ropes;
            case 2:
                return now.hour;
            case 3:
                return now.allHeights();
            case 4:
                return now.allStones();
            case 5:
                return now.allHeft();
            case 6:
                return told.size;
            case 7:
                return letters.size;
            default:
                return what > 10 && what <= 10 + REFUSAL_KINDS ? refusals[what - 10] : NONE;
        }
    }

    // ---- refusals

    private int refuse(int fault) {
        refusals[-fault]++;
        return fault;
    }

    private long refuseLong(int fault) {
        return LONG_REFUSAL - refuse(fault);
    }

    private static int rangeFault(int v, int least, int most) {
        if (v < least) {
            return BELOW;
        }
        return v > most ? ROOM : FINE;
    }

    private int thingFault(int thing, int v, int most) {
        return now.hasThing(thing) ? rangeFault(v, 0, most) : NOBODY;
    }

    private int aimFault(int thing, int v, int n) {
        if (!now.hasThing(thing)) {
            return NOBODY;
        }
        if (v < 0 || n < 0) {
            return BELOW;
        }
        return v > MOST_HEIGHT || n > MOST_HOURS_PLANNED ? ROOM : FINE;
    }

    private int wetFault(int rope, int thing, int n, int t, int v) {
        if (!now.hasRope(rope) || !now.hasThing(thing)) {
            return NOBODY;
        }
        if (n < 0 || v < 0 || t < LEAST_ODDS) {
            return BELOW;
        }
        return n > MOST_WET_HOURS || t > MOST_ODDS || v > MOST_HEIGHT ? ROOM : FINE;
    }

    // ---- numbers

    private static boolean hasBit(int bits, int place) {
        return (bits & 1 << place) != 0;
    }

    private static long power(long base, int times) {
        long product = 1;
        for (int i = 0; i < times; i++) {
            product *= base;
        }
        return product;
    }

    private static long inLeastTerms(long above, long below, int part) {
        long divisor = below;
        long rest = above;
        // Euclid's steps for numbers of 64 bits are fewer than 100.
        for (int i = 0; i < 100 && rest != 0; i++) {
            long next = divisor % rest;
            divisor = rest;
            rest = next;
        }
        if (divisor == 0) {
            return part;
        }
        return (part == 0 ? above : below) / divisor;
    }

    /** Things, ropes and the hour: all that an image keeps. */
    private static final class Port {
        final int[] kind = new int[MOST_THINGS];
        final int[] figure = new int[MOST_THINGS];
        final int[] weight = new int[MOST_THINGS];
        final int[] stones = new int[MOST_THINGS];
        final int[] height = new int[MOST_THINGS];
        final int[] one = new int[MOST_ROPES];
        final int[] other = new int[MOST_ROPES];
        int things = 0;
        int ropes = 0;
        int hour = 0;

        void copyFrom(Port from) {
            things = from.things;
            ropes = from.ropes;
            hour = from.hour;
            System.arraycopy(from.kind, 0, kind, 0, things);
            System.arraycopy(from.figure, 0, figure, 0, things);
            System.arraycopy(from.weight, 0, weight, 0, things);
            System.arraycopy(from.stones, 0, stones, 0, things);
            System.arraycopy(from.height, 0, height, 0, things);
            System.arraycopy(from.one, 0, one, 0, ropes);
            System.arraycopy(from.other, 0, other, 0, ropes);
        }

        boolean hasThing(int thing) {
            return thing >= 0 && thing < things;
        }

        boolean hasRope(int rope) {
            return rope >= 0 && rope < ropes;
        }

        boolean hasPair(int a, int b) {
            return hasThing(a) && hasThing(b) && a != b;
        }

        void addThing(int itsKind, int itsFigure, int itsWeight) {
            kind[things] = itsKind;
            figure[things] = itsFigure;
            weight[things] = itsWeight;
            stones[things] = 0;
            height[things] = 0;
            things++;
        }

        int addRope(int a, int b) {
            one[ropes] = a;
            other[ropes] = b;
            ropes++;
            return ropes - 1;
        }

        int dropRope(int rope) {
            ropes--;
            for (int i = rope; i < ropes; i++) {
                one[i] = one[i + 1];
                other[i] = other[i + 1];
            }
            return ropes;
        }

        int heftOf(int thing) {
            int plain = weight[thing] + 2 * stones[thing];
            int own = kind[thing];
            if (own == FEATHERS) {
                return plain / 2;
            }
            if (own == SHIP) {
                return plain + 20 + figure[thing];
            }
            boolean isBaker = own == BAKER || own == SMUGGLER;
            int ofDay = hour % 24;
            int heft = plain;
            if ((own == PERSON || isBaker) && ofDay >= 12 && ofDay <= 17) {
                heft += figure[thing];
            }
            if (isBaker && ofDay <= 5 && heft > 0) {
                heft--;
            }
            // Behind the baker's least of 0: a smuggler adds to what the baker has.
            if (own == SMUGGLER && hour % 2 == 1) {
                heft += 5;
            }
            return heft;
        }

        int heavierEnd(int rope) {
            int difference = heftOf(one[rope]) - heftOf(other[rope]);
            if (difference == 0) {
                return NONE;
            }
            return difference > 0 ? one[rope] : other[rope];
        }

        int farEnd(int rope, int end) {
            return one[rope] == end ? other[rope] : one[rope];
        }

        /** The wet rope, if there is one, holds to the lighter end. */
        void goHour(int wetRope) {
            hour++;
            for (int rope = 0; rope < ropes; rope++) {
                int lean = heftOf(one[rope]) - heftOf(other[rope]);
                if (rope == wetRope) {
                    lean = -lean;
                }
                if (lean > 0) {
                    shift(one[rope], other[rope]);
                } else if (lean < 0) {
                    shift(other[rope], one[rope]);
                }
            }
        }

        private void shift(int down, int rising) {
            if (height[down] > 0) {
                height[down]--;
            }
            if (height[rising] < MOST_HEIGHT) {
                height[rising]++;
            }
        }

        void goHours(int n) {
            for (int i = 0; i < n; i++) {
                goHour(NONE);
            }
        }

        int looseRopes() {
            int bits = 0;
            for (int rope = 0; rope < ropes; rope++) {
                if (heavierEnd(rope) == NONE) {
                    bits |= 1 << rope;
                }
            }
            return bits;
        }

        int allHeights() {
            int sum = 0;
            for (int i = 0; i < things; i++) {
                sum += height[i];
            }
            return sum;
        }

        int allStones() {
            int sum = 0;
            for (int i = 0; i < things; i++) {
                sum += stones[i];
            }
            return sum;
        }

        int allHeft() {
            int sum = 0;
            for (int i = 0; i < things; i++) {
                sum += heftOf(i);
            }
            return sum;
        }
    }

    /** The letters that a port is told in. */
    private static final class Letters {
        final int[] signs = new int[MOST_LETTERS];
        int size = 0;

        int add(int c) {
            signs[size] = c;
            size++;
            return size;
        }

        /** How many statements came to the port, or the fault; with a fault the port is of no use. */
        int tellTo(Port port) {
            int bad = firstBadPlace();
            if (bad != NONE) {
                return -1000 - bad;
            }
            int statements = 0;
            int length = 1;
            for (int at = 0; at < size; at += length) {
                length = Math.max(1, shapeOf(signs[at]).length());
                if (!tellStatement(port, at)) {
                    return -2000 - at;
                }
                statements++;
            }
            return statements;
        }

        private int firstBadPlace() {
            int length = 1;
            for (int at = 0; at < size; at += length) {
                String shape = shapeOf(signs[at]);
                length = Math.max(1, shape.length());
                if (shape.isEmpty()) {
                    return at;
                }
                for (int i = 1; i < length; i++) {
                    if (at + i >= size || !fits(signs[at + i], shape.charAt(i))) {
                        return at + i;
                    }
                }
            }
            // At least one statement must be there.
            return size == 0 ? 0 : NONE;
        }

        /** A statement's form, "k" for a kind's letter and "0" for a digit; empty if none begins so. */
        private static String shapeOf(int sign) {
            switch (sign) {
                case 't':
                    return "tk000;";
                case 'r':
                    return "r00;";
                case 'c':
                    return "c0;";
                case 's':
                    return "s00;";
                case 'u':
                    return "u000;";
                case 'h':
                    return "h00;";
                default:
                    return "";
            }
        }

        private static boolean fits(int sign, char form) {
            switch (form) {
                case 'k':
                    return kindOf(sign) >= 0;
                case '0':
                    return sign >= '0' && sign <= '9';
                default:
                    return sign == form;
            }
        }

        private static int kindOf(int sign) {
            for (int i = 0; i < KINDS; i++) {
                if (KIND_LETTERS.charAt(i) == sign) {
                    return i;
                }
            }
            return NONE;
        }

        /** Whether the statement was as it must be; firstBadPlace has seen that all its letters are there. */
        private boolean tellStatement(Port port, int at) {
            switch (signs[at]) {
                case 't':
                    return tellThing(port, kindOf(signs[at + 1]), digit(at + 2), number(at + 3));
                case 'r':
                    return tellRope(port, digit(at + 1), digit(at + 2));
                case 'c':
                    return tellCut(port, digit(at + 1));
                case 's':
                    return tellStones(port, digit(at + 1), digit(at + 2));
                case 'u':
                    return tellHeight(port, digit(at + 1), number(at + 2));
                default:
                    return tellHours(port, number(at + 1));
            }
        }

        private int digit(int at) {
            return signs[at] - '0';
        }

        private int number(int at) {
            return 10 * digit(at) + digit(at + 1);
        }

        private static boolean tellThing(Port port, int kind, int figure, int weight) {
            if (weight > MOST_WEIGHT || port.things >= MOST_THINGS) {
                return false;
            }
            port.addThing(kind, figure, weight);
            return true;
        }

        private static boolean tellRope(Port port, int one, int other) {
            if (!port.hasPair(one, other) || port.ropes >= MOST_ROPES) {
                return false;
            }
            port.addRope(one, other);
            return true;
        }

        private static boolean tellCut(Port port, int rope) {
            if (!port.hasRope(rope)) {
                return false;
            }
            port.dropRope(rope);
            return true;
        }

        private static boolean tellStones(Port port, int thing, int stones) {
            if (!port.hasThing(thing)) {
                return false;
            }
            port.stones[thing] = stones;
            return true;
        }

        private static boolean tellHeight(Port port, int thing, int height) {
            if (!port.hasThing(thing) || height > MOST_HEIGHT) {
                return false;
            }
            port.height[thing] = height;
            return true;
        }

        private static boolean tellHours(Port port, int n) {
            if (n < 1 || n > MOST_HOURS_AT_ONCE || port.hour + n > LAST_HOUR) {
                return false;
            }
            port.goHours(n);
            return true;
        }
    }

    /** The row of told numbers. */
    private static final class Told {
        final int[] numbers = new int[MOST_TOLD];
        int size = 0;

        int add(int v) {
            numbers[size] = v;
            size++;
            return size;
        }

        int firstWrong(Port port) {
            for (int i = 0; i < size; i += 2) {
                if (i + 1 >= size || !port.hasThing(numbers[i])) {
                    return i;
                }
                if (!isLighter(port, numbers[i], numbers[i + 1])) {
                    return i + 1;
                }
            }
            return NONE;
        }

        private static boolean isLighter(Port port, int one, int other) {
            return port.hasPair(one, other) && port.heftOf(one) < port.heftOf(other);
        }
    }

    /** What comes of the port as it is now, thought through in a second port that is used again and again. */
    private static final class Mind {
        private final Port then = new Port();
        private final int[] before = new int[MOST_THINGS];
        private final int[] leads = new int[4];

        Port begin(Port now) {
            then.copyFrom(now);
            return then;
        }

        Port behind(Port now, int n) {
            then.copyFrom(now);
            then.goHours(n);
            return then;
        }

        int whenUp(Port now, int thing, int v) {
            begin(now);
            for (int n = 0; n <= MOST_HOURS_AHEAD; n++) {
                if (then.height[thing] >= v) {
                    return n;
                }
                then.goHour(NONE);
            }
            return NONE;
        }

        int whoFirst(Port now) {
            return whenFirst(now) == NONE ? NONE : leastAtTop();
        }

        int whenFirst(Port now) {
            begin(now);
            for (int n = 0; n <= MOST_HOURS_AHEAD; n++) {
                if (leastAtTop() != NONE) {
                    return n;
                }
                then.goHour(NONE);
            }
            return NONE;
        }

        private int leastAtTop() {
            for (int i = 0; i < then.things; i++) {
                if (then.height[i] == MOST_HEIGHT) {
                    return i;
                }
            }
            return NONE;
        }

        int whenRest(Port now) {
            begin(now);
            for (int n = 0; n <= MOST_HOURS_AHEAD; n++) {
                System.arraycopy(then.height, 0, before, 0, then.things);
                then.goHour(NONE);
                if (isAsBefore()) {
                    return n;
                }
            }
            return NONE;
        }

        private boolean isAsBefore() {
            for (int i = 0; i < then.things; i++) {
                if (then.height[i] != before[i]) {
                    return false;
                }
            }
            return true;
        }

        int whenOtherwise(Port now, int rope) {
            int held = now.heavierEnd(rope);
            begin(now);
            for (int n = 1; n <= MOST_HOURS_AHEAD; n++) {
                then.goHour(NONE);
                if (then.heavierEnd(rope) != held) {
                    return n;
                }
            }
            return NONE;
        }

        int whenLevel(Port now, int one, int other) {
            begin(now);
            for (int n = 0; n <= MOST_HOURS_AHEAD; n++) {
                if (then.height[one] == then.height[other]) {
                    return n;
                }
                then.goHour(NONE);
            }
            return NONE;
        }

        int fewestLess(Port now, int thing, int v, int n) {
            for (int less = 0; less <= now.stones[thing]; less++) {
                if (heightByStones(now, thing, now.stones[thing] - less, n) >= v) {
                    return less;
                }
            }
            return NONE;
        }

        int fewestMore(Port now, int thing, int v, int n) {
            for (int more = 0; now.stones[thing] + more <= MOST_STONES; more++) {
                if (heightByStones(now, thing, now.stones[thing] + more, n) <= v) {
                    return more;
                }
            }
            return NONE;
        }

        private int heightByStones(Port now, int thing, int stones, int n) {
            begin(now);
            then.stones[thing] = stones;
            then.goHours(n);
            return then.height[thing];
        }

        int highestByTie(Port now, int thing, int n) {
            if (now.ropes >= MOST_ROPES) {
                return NONE;
            }
            int best = NONE;
            int most = behind(now, n).height[thing];
            for (int other = 0; other < now.things; other++) {
                if (other != thing) {
                    begin(now);
                    then.addRope(thing, other);
                    then.goHours(n);
                    if (then.height[thing] > most) {
                        most = then.height[thing];
                        best = other;
                    }
                }
            }
            return best;
        }

        int highestByCut(Port now, int thing, int n) {
            int best = NONE;
            int most = behind(now, n).height[thing];
            for (int rope = 0; rope < now.ropes; rope++) {
                begin(now);
                then.dropRope(rope);
                then.goHours(n);
                if (then.height[thing] > most) {
                    most = then.height[thing];
                    best = rope;
                }
            }
            return best;
        }

        int highestByStone(Port now, int n) {
            int best = NONE;
            int most = behind(now, n).allHeights();
            for (int thing = 0; thing < now.things; thing++) {
                if (now.stones[thing] < MOST_STONES) {
                    begin(now);
                    then.stones[thing]++;
                    then.goHours(n);
                    if (then.allHeights() > most) {
                        most = then.allHeights();
                        best = thing;
                    }
                }
            }
            return best;
        }

        /** Pairs are numbered 0 .. 3: the first's choice is worth 2, the other's 1. */
        int steadyPair(Port now, int a, int b, int n) {
            for (int pair = 0; pair < 4; pair++) {
                leads[pair] = leadBy(now, pair, a, b, n);
            }
            for (int pair = 0; pair < 4; pair++) {
                // What one leads by, the other lags by.
                if (leads[pair ^ 2] <= leads[pair] && leads[pair ^ 1] >= leads[pair]) {
                    return 10 * (pair / 2) + pair % 2;
                }
            }
            return NONE;
        }

        private int leadBy(Port now, int pair, int a, int b, int n) {
            begin(now);
            if (hasBit(pair, 1)) {
                then.stones[a] = Math.min(MOST_STONES, then.stones[a] + STONES_EATEN);
            }
            if (hasBit(pair, 0)) {
                then.stones[b] = Math.min(MOST_STONES, then.stones[b] + STONES_EATEN);
            }
            then.goHours(n);
            return then.height[a] - then.height[b];
        }

        /** Of t to the n-th cases, those in which the thing is high enough. */
        long wetCases(Port now, int rope, int thing, int n, int t, int v) {
            long cases = 0;
            for (int wetHours = 0; wetHours < 1 << n; wetHours++) {
                begin(now);
                for (int i = 0; i < n; i++) {
                    then.goHour(hasBit(wetHours, i) ? rope : NONE);
                }
                if (then.height[thing] >= v) {
                    cases += power(t - 1, n - Integer.bitCount(wetHours));
                }
            }
            return cases;
        }

        int kindsAsTold(Port now, int thing, Told told) {
            int bits = 0;
            for (int kind = 0; kind < KINDS; kind++) {
                begin(now);
                then.kind[thing] = kind;
                if (goesAsTold(thing, told)) {
                    bits |= 1 << kind;
                }
            }
            return bits;
        }

        int weightsAsTold(Port now, int thing, Told told) {
            int weights = 0;
            for (int weight = 0; weight <= MOST_WEIGHT; weight++) {
                begin(now);
                then.weight[thing] = weight;
                if (goesAsTold(thing, told)) {
                    weights++;
                }
            }
            return weights;
        }

        private boolean goesAsTold(int thing, Told told) {
            for (int i = 0; i < told.size; i++) {
                if (then.height[thing] != told.numbers[i]) {
                    return false;
                }
                then.goHour(NONE);
            }
            return true;
        }

        int byLot(Port now, int n, int z, boolean heights) {
            int seed = z;
            int sum = 0;
            for (int i = 0; i < n; i++) {
                begin(now);
                for (int thing = 0; thing < then.things; thing++) {
                    seed = seed * 1664525 + 1013904223;
                    then.stones[thing] = (seed & 0x7fffffff) / 256 % (MOST_STONES + 1);
                }
                then.goHours(LOT_HOURS);
                sum += heights ? then.allHeights() : Integer.bitCount(then.looseRopes());
            }
            return sum;
        }
    }

    /** Things by their heft now. */
    private static final class Scale {
        static int ranked(Port port, int place) {
            for (int thing = 0; thing < port.things; thing++) {
                if (rankOf(port, thing) == place) {
                    return thing;
                }
            }
            return NONE;
        }

        private static int rankOf(Port port, int thing) {
            int heft = port.heftOf(thing);
            int ahead = 0;
            for (int i = 0; i < port.things; i++) {
                int its = port.heftOf(i);
                if (its > heft || its == heft && i < thing) {
                    ahead++;
                }
            }
            return ahead;
        }

        static int countInside(Port port, int one, int other) {
            int low = Math.min(port.heftOf(one), port.heftOf(other));
            int high = Math.max(port.heftOf(one), port.heftOf(other));
            int inside = 0;
            for (int i = 0; i < port.things; i++) {
                int its = port.heftOf(i);
                if (its > low && its < high) {
                    inside++;
                }
            }
            return inside;
        }

        static int counterweight(Port port, int thing) {
            int heft = port.heftOf(thing);
            int best = NONE;
            int fewest = MOST_THINGS + 1;
            for (int bits = 0; bits < 1 << port.things; bits++) {
                int size = Integer.bitCount(bits);
                if (size < fewest && !hasBit(bits, thing) && heftTogether(port, bits) == heft) {
                    fewest = size;
                    best = bits;
                }
            }
            return best;
        }

        private static int heftTogether(Port port, int bits) {
            int sum = 0;
            for (int i = 0; i < port.things; i++) {
                if (hasBit(bits, i)) {
                    sum += port.heftOf(i);
                }
            }
            return sum;
        }

        static int mostAlike(Port port, int thing) {
            int heft = port.heftOf(thing);
            int best = NONE;
            int least = FAR_APART;
            for (int i = 0; i < port.things; i++) {
                int distance = Math.abs(port.heftOf(i) - heft);
                if (i != thing && distance < least) {
                    least = distance;
                    best = i;
                }
            }
            return best;
        }

        static int firstSide(Port port) {
            int best = NONE;
            int least = FAR_APART;
            // Odd bits alone: thing 0 stands on the first side.
            for (int bits = 1; bits < 1 << port.things; bits += 2) {
                int distance = apart(port, bits);
                if (distance < least) {
                    least = distance;
                    best = bits;
                }
            }
            return best;
        }

        static int apart(Port port, int bits) {
            return Math.abs(2 * heftTogether(port, bits) - port.allHeft());
        }
    }

    /** What hangs together by ropes now. */
    private static final class Net {
        static int hangingWith(Port port, int thing) {
            int reached = 1 << thing;
            // A rope more is gone along in each round, so as many rounds as ropes reach all.
            for (int round = 0; round < port.ropes; round++) {
                for (int rope = 0; rope < port.ropes; rope++) {
                    int ends = 1 << port.one[rope] | 1 << port.other[rope];
                    if ((reached & ends) != 0) {
                        reached |= ends;
                    }
                }
            }
            return reached;
        }

        static int pieces(Port port) {
            int pieces = 0;
            for (int thing = 0; thing < port.things; thing++) {
                if (Integer.numberOfTrailingZeros(hangingWith(port, thing)) == thing) {
                    pieces++;
                }
            }
            return pieces;
        }

        static int greatestPiece(Port port) {
            int most = 0;
            for (int thing = 0; thing < port.things; thing++) {
                most = Math.max(most, Integer.bitCount(hangingWith(port, thing)));
            }
            return most;
        }

        static boolean hasRing(Port port) {
            // Without a ring each rope joins two pieces to one.
            return port.ropes > port.things - pieces(port);
        }

        /** All to which one comes from a thing, heavier by heavier; not the thing itself. */
        static int heavierThan(Port port, int thing) {
            int reached = 1 << thing;
            for (int round = 0; round < port.ropes; round++) {
                for (int rope = 0; rope < port.ropes; rope++) {
                    int heavier = port.heavierEnd(rope);
                    if (heavier != NONE && hasBit(reached, port.farEnd(rope, heavier))) {
                        reached |= 1 << heavier;
                    }
                }
            }
            return reached & ~(1 << thing);
        }

        static int heaviestAbove(Port port, int thing) {
            int reached = heavierThan(port, thing);
            int best = thing;
            int most = port.heftOf(thing);
            for (int i = 0; i < port.things; i++) {
                if (hasBit(reached, i) && port.heftOf(i) > most) {
                    most = port.heftOf(i);
                    best = i;
                }
            }
            return best;
        }
    }
}
