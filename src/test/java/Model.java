import java.math.BigInteger;
import java.util.ArrayList;
import java.util.Comparator;
import java.util.HashSet;
import java.util.List;
import java.util.Set;
import java.util.TreeMap;
import java.util.function.IntPredicate;
import java.util.function.ToIntFunction;
import java.util.regex.Matcher;
import java.util.regex.Pattern;

/**
 * The document told a second time, by other means than the class (kinds as a tree of classes, a
 * pattern for the letters, whole copies of the state): ModelTest holds the two against each other.
 */
public final class Model {

    static class Thing {
        int kind, figure, weight, stones, height;

        int heft(int hour) {
            return weight + 2 * stones;
        }

        static Thing of(int kind, int figure, int weight, int stones, int height) {
            Thing[] kinds = {new Thing(), new Person(), new Baker(), new Smuggler(), new Feathers(), new Ship()};
            Thing made = kinds[kind];
            made.kind = kind;
            made.figure = figure;
            made.weight = weight;
            made.stones = stones;
            made.height = height;
            return made;
        }
    }

    static class Person extends Thing {
        @Override
        int heft(int hour) {
            boolean afternoon = hour % 24 >= 12 && hour % 24 < 18;
            return super.heft(hour) + (afternoon ? figure : 0);
        }
    }

    static class Baker extends Person {
        @Override
        int heft(int hour) {
            boolean night = hour % 24 < 6;
            return Math.max(0, super.heft(hour) - (night ? 1 : 0));
        }
    }

    static class Smuggler extends Baker {
        @Override
        int heft(int hour) {
            return super.heft(hour) + 5 * (hour % 2);
        }
    }

    static class Feathers extends Thing {
        @Override
        int heft(int hour) {
            return Math.floorDiv(super.heft(hour), 2);
        }
    }

    static class Ship extends Thing {
        @Override
        int heft(int hour) {
            return super.heft(hour) + figure + 20;
        }
    }

    static final class State {
        final List<Thing> things = new ArrayList<>();
        final List<int[]> ropes = new ArrayList<>();
        int hour;

        State copy() {
            State made = new State();
            for (Thing t : things) {
                made.things.add(Thing.of(t.kind, t.figure, t.weight, t.stones, t.height));
            }
            for (int[] r : ropes) {
                made.ropes.add(r.clone());
            }
            made.hour = hour;
            return made;
        }

        int heft(int thing) {
            return things.get(thing).heft(hour);
        }

        int height(int thing) {
            return things.get(thing).height;
        }

        int holds(int rope) {
            int[] ends = ropes.get(rope);
            int order = Integer.compare(heft(ends[0]), heft(ends[1]));
            return order == 0 ? -9 : order > 0 ? ends[0] : ends[1];
        }

        int farEnd(int rope, int end) {
            int[] ends = ropes.get(rope);
            return ends[0] + ends[1] - end;
        }

        State hour(int wet) {
            hour++;
            for (int r = 0; r < ropes.size(); r++) {
                if (holds(r) == -9) {
                    continue;
                }
                int held = r == wet ? farEnd(r, holds(r)) : holds(r);
                Thing down = things.get(held);
                Thing up = things.get(farEnd(r, held));
                if (down.height > 0 || up.height < 20) {
                    down.height = down.height == 0 ? 0 : down.height - 1;
                    up.height = up.height == 20 ? 20 : up.height + 1;
                }
            }
            return this;
        }

        State hours(int n) {
            for (int i = 0; i < n; i++) {
                hour(-1);
            }
            return this;
        }

        List<Integer> heights() {
            List<Integer> all = new ArrayList<>();
            things.forEach(t -> all.add(t.height));
            return all;
        }

        int sum(ToIntFunction<Thing> of) {
            return things.stream().mapToInt(of).sum();
        }

        int loose() {
            int bits = 0;
            for (int r = 0; r < ropes.size(); r++) {
                bits += holds(r) == -9 ? 1 << r : 0;
            }
            return bits;
        }
    }

    private static final Pattern PORT =
        Pattern.compile("(t[tpbsfi]\\d\\d\\d;|r\\d\\d;|c\\d;|s\\d\\d;|u\\d\\d\\d;|h\\d\\d;)+");

    private State now = new State();
    private State kept = null;
    private final StringBuilder letters = new StringBuilder();
    private final List<Integer> told = new ArrayList<>();
    private final TreeMap<Integer, Integer> refusals = new TreeMap<>();

    private int no(int code) {
        refusals.merge(code, 1, Integer::sum);
        return code;
    }

    private boolean isThing(int thing) {
        return thing >= 0 && thing < now.things.size();
    }

    private boolean isRope(int rope) {
        return rope >= 0 && rope < now.ropes.size();
    }

    private boolean isPair(int a, int b) {
        return isThing(a) && isThing(b) && a != b;
    }

    /** The least n from..99 behind which it is so. */
    private int when(int from, java.util.function.Predicate<State> so) {
        for (int n = from; n <= 99; n++) {
            if (so.test(now.copy().hours(n))) {
                return n;
            }
        }
        return -9;
    }

    private static int least(int from, int to, IntPredicate so) {
        for (int i = from; i <= to; i++) {
            if (so.test(i)) {
                return i;
            }
        }
        return -9;
    }

    /** The least of 0 .. count - 1 with the greatest worth, if that is above the bar. */
    private static int best(int count, int bar, IntPredicate may, java.util.function.IntUnaryOperator worth) {
        int found = -9;
        int most = bar;
        for (int i = 0; i < count; i++) {
            if (may.test(i) && worth.applyAsInt(i) > most) {
                found = i;
                most = worth.applyAsInt(i);
            }
        }
        return found;
    }

    public int letter(int c) {
        if (c < 0) {
            return no(-4);
        }
        if (c > 255 || letters.length() == 96) {
            return no(-6);
        }
        letters.append((char) c);
        return letters.length();
    }

    public int port() {
        String text = letters.toString();
        letters.setLength(0);
        for (int place = 0; place < text.length(); place++) {
            Matcher ahead = PORT.matcher(text.substring(0, place + 1));
            if (!ahead.matches() && !ahead.hitEnd()) {
                return -1000 - place;
            }
        }
        if (!PORT.matcher(text).matches()) {
            return -1000 - text.length();
        }
        State then = now.copy();
        int place = 0;
        String[] statements = text.split(";");
        for (String statement : statements) {
            if (!tell(then, statement)) {
                return -2000 - place;
            }
            place += statement.length() + 1;
        }
        now = then;
        return statements.length;
    }

    private static boolean tell(State then, String statement) {
        String rest = statement.substring(statement.charAt(0) == 't' ? 2 : 1);
        int number = Integer.parseInt(rest);
        switch (statement.charAt(0)) {
            case 't': {
                then.things.add(Thing.of("tpbsfi".indexOf(statement.charAt(1)), number / 100, number % 100, 0, 0));
                return number % 100 <= 60 && then.things.size() <= 8;
            }
            case 'r': {
                int[] ends = {number / 10, number % 10};
                then.ropes.add(ends);
                return ends[0] != ends[1] && Math.max(ends[0], ends[1]) < then.things.size() && then.ropes.size() <= 6;
            }
            case 'c': {
                return number < then.ropes.size() && then.ropes.remove(number) != null;
            }
            case 's': {
                if (number / 10 >= then.things.size()) {
                    return false;
                }
                then.things.get(number / 10).stones = number % 10;
                return true;
            }
            case 'u': {
                if (number / 100 >= then.things.size() || number % 100 > 20) {
                    return false;
                }
                then.things.get(number / 100).height = number % 100;
                return true;
            }
            default: {
                then.hours(number);
                return number >= 1 && number <= 60 && then.hour <= 999;
            }
        }
    }

    public int thing(int thing, int what) {
        if (!isThing(thing)) {
            return no(-1);
        }
        if (what < 0 || what > 5) {
            return no(-2);
        }
        Thing t = now.things.get(thing);
        return new int[] {t.kind, t.figure, t.weight, t.stones, t.height, now.heft(thing)}[what];
    }

    public int rope(int rope, int what) {
        if (!isRope(rope)) {
            return no(-1);
        }
        if (what < 0 || what > 2) {
            return no(-2);
        }
        return what == 2 ? now.holds(rope) : now.ropes.get(rope)[what];
    }

    public int ties(int one, int other) {
        if (!isPair(one, other)) {
            return no(-1);
        }
        if (now.ropes.size() == 6) {
            return no(-6);
        }
        now.ropes.add(new int[] {one, other});
        return now.ropes.size() - 1;
    }

    public int cuts(int rope) {
        if (!isRope(rope)) {
            return no(-1);
        }
        now.ropes.remove(rope);
        return now.ropes.size();
    }

    private int thingNumber(int thing, int v, int most) {
        return !isThing(thing) ? -1 : v < 0 ? -4 : v > most ? -6 : 0;
    }

    public int stones(int thing, int v) {
        int fault = thingNumber(thing, v, 9);
        if (fault != 0) {
            return no(fault);
        }
        int was = now.things.get(thing).stones;
        now.things.get(thing).stones = v;
        return was;
    }

    public int weighs(int thing, int v) {
        int fault = thingNumber(thing, v, 60);
        if (fault != 0) {
            return no(fault);
        }
        int was = now.things.get(thing).weight;
        now.things.get(thing).weight = v;
        return was;
    }

    public int lifts(int thing, int v) {
        int fault = thingNumber(thing, v, 20);
        if (fault != 0) {
            return no(fault);
        }
        int was = now.things.get(thing).height;
        now.things.get(thing).height = v;
        return was;
    }

    public int turn(int thing, int kind, int figure) {
        if (!isThing(thing)) {
            return no(-1);
        }
        if (kind < 0 || kind > 5) {
            return no(-2);
        }
        if (figure < 0 || figure > 9) {
            return no(figure < 0 ? -4 : -6);
        }
        Thing was = now.things.get(thing);
        now.things.set(thing, Thing.of(kind, figure, was.weight, was.stones, was.height));
        return was.kind * 10 + was.figure;
    }

    public int hours(int n) {
        if (n < 1) {
            return no(-4);
        }
        if (n > 60 || now.hour + n > 999) {
            return no(-6);
        }
        return now.hours(n).sum(t -> t.height);
    }

    public int thingThen(int thing, int n, int what) {
        int fault = thingNumber(thing, n, 99);
        if (fault != 0) {
            return no(fault);
        }
        if (what < 0 || what > 1) {
            return no(-2);
        }
        State then = now.copy().hours(n);
        return what == 0 ? then.height(thing) : then.heft(thing);
    }

    public int ropeThen(int rope, int n) {
        if (!isRope(rope)) {
            return no(-1);
        }
        if (n < 0 || n > 99) {
            return no(n < 0 ? -4 : -6);
        }
        return now.copy().hours(n).holds(rope);
    }

    public int up(int thing, int v) {
        int fault = thingNumber(thing, v, 20);
        return fault != 0 ? no(fault) : when(0, s -> s.height(thing) >= v);
    }

    public int first(int what) {
        if (what < 0 || what > 2) {
            return no(-2);
        }
        if (what == 2) {
            return when(0, s -> s.heights().equals(s.copy().hours(1).heights()));
        }
        int n = when(0, s -> s.heights().contains(20));
        return n == -9 || what == 1 ? n : now.copy().hours(n).heights().indexOf(20);
    }

    public int changes(int rope) {
        if (!isRope(rope)) {
            return no(-1);
        }
        return when(1, s -> s.holds(rope) != now.holds(rope));
    }

    private int aim(int thing, int v, int n) {
        return !isThing(thing) ? -1 : Math.min(v, n) < 0 ? -4 : v > 20 || n > 30 ? -6 : 0;
    }

    private int highBy(int thing, int stones, int n) {
        State then = now.copy();
        then.things.get(thing).stones = stones;
        return then.hours(n).height(thing);
    }

    public int throwsDown(int thing, int v, int n) {
        int fault = aim(thing, v, n);
        if (fault != 0) {
            return no(fault);
        }
        int has = now.things.get(thing).stones;
        return least(0, has, k -> highBy(thing, has - k, n) >= v);
    }

    public int takesUp(int thing, int v, int n) {
        int fault = aim(thing, v, n);
        if (fault != 0) {
            return no(fault);
        }
        int has = now.things.get(thing).stones;
        return least(0, 9 - has, k -> highBy(thing, has + k, n) <= v);
    }

    public int bestTie(int thing, int n) {
        int fault = thingNumber(thing, n, 30);
        if (fault != 0) {
            return no(fault);
        }
        if (now.ropes.size() == 6) {
            return -9;
        }
        return best(now.things.size(), now.copy().hours(n).height(thing), i -> i != thing, i -> {
            State then = now.copy();
            then.ropes.add(new int[] {i, thing});
            return then.hours(n).height(thing);
        });
    }

    public int bestCut(int thing, int n) {
        int fault = thingNumber(thing, n, 30);
        if (fault != 0) {
            return no(fault);
        }
        return best(now.ropes.size(), now.copy().hours(n).height(thing), i -> true, i -> {
            State then = now.copy();
            then.ropes.remove(i);
            return then.hours(n).height(thing);
        });
    }

    public int bestStone(int n) {
        if (n < 0 || n > 30) {
            return no(n < 0 ? -4 : -6);
        }
        int bar = now.copy().hours(n).sum(t -> t.height);
        return best(now.things.size(), bar, i -> now.things.get(i).stones < 9, i -> {
            State then = now.copy();
            then.things.get(i).stones++;
            return then.hours(n).sum(t -> t.height);
        });
    }

    public int rows(int i) {
        if (i < 0) {
            return no(-4);
        }
        List<Integer> all = new ArrayList<>();
        for (int t = 0; t < now.things.size(); t++) {
            all.add(t);
        }
        all.sort(Comparator.comparing((Integer t) -> -now.heft(t)));
        return i < all.size() ? all.get(i) : -9;
    }

    public int between(int one, int other) {
        if (!isPair(one, other)) {
            return no(-1);
        }
        int a = now.heft(one);
        int b = now.heft(other);
        return now.sum(t -> (t.heft(now.hour) - a) * (t.heft(now.hour) - b) < 0 ? 1 : 0);
    }

    private int heftOf(int bits) {
        int sum = 0;
        for (int t = 0; t < now.things.size(); t++) {
            sum += (bits >> t & 1) * now.heft(t);
        }
        return sum;
    }

    public int balance(int thing) {
        if (!isThing(thing)) {
            return no(-1);
        }
        for (int size = 0; size <= 8; size++) {
            int many = size;
            int found = least(0, (1 << now.things.size()) - 1, bits -> Integer.bitCount(bits) == many
                && (bits >> thing & 1) == 0 && heftOf(bits) == now.heft(thing));
            if (found != -9) {
                return found;
            }
        }
        return -9;
    }

    public int nearest(int thing) {
        if (!isThing(thing)) {
            return no(-1);
        }
        return best(now.things.size(), Integer.MIN_VALUE, i -> i != thing,
            i -> -Math.abs(now.heft(i) - now.heft(thing)));
    }

    private void walk(int thing, Set<Integer> seen) {
        if (seen.add(thing)) {
            for (int[] ends : now.ropes) {
                if (ends[0] == thing) {
                    walk(ends[1], seen);
                } else if (ends[1] == thing) {
                    walk(ends[0], seen);
                }
            }
        }
    }

    private static int bits(Set<Integer> set) {
        return set.stream().mapToInt(i -> 1 << i).sum();
    }

    private Set<Integer> chainOf(int thing) {
        Set<Integer> seen = new HashSet<>();
        walk(thing, seen);
        return seen;
    }

    public int chain(int thing) {
        return isThing(thing) ? bits(chainOf(thing)) : no(-1);
    }

    /** A ring is there if a rope's two ends hang together without it, too. */
    private boolean ring() {
        for (int r = 0; r < now.ropes.size(); r++) {
            int[] ends = now.ropes.remove(r);
            boolean without = chainOf(ends[0]).contains(ends[1]);
            now.ropes.add(r, ends);
            if (without) {
                return true;
            }
        }
        return false;
    }

    public int chains(int what) {
        if (what < 0 || what > 2) {
            return no(-2);
        }
        if (what == 2) {
            return ring() ? 1 : 0;
        }
        Set<Set<Integer>> all = new HashSet<>();
        for (int t = 0; t < now.things.size(); t++) {
            all.add(chainOf(t));
        }
        return what == 0 ? all.size() : all.stream().mapToInt(Set::size).max().orElse(0);
    }

    public int sides(int what) {
        if (what < 0 || what > 1) {
            return no(-2);
        }
        int all = (1 << now.things.size()) - 1;
        int side = best(all + 1, Integer.MIN_VALUE, bits -> (bits & 1) == 1,
            bits -> -Math.abs(heftOf(bits) - heftOf(all & ~bits)));
        return what == 0 || side == -9 ? side : Math.abs(heftOf(side) - heftOf(all & ~side));
    }

    private void haul(int thing, Set<Integer> seen) {
        for (int r = 0; r < now.ropes.size(); r++) {
            int heavy = now.holds(r);
            if (heavy != -9 && now.farEnd(r, heavy) == thing && seen.add(heavy)) {
                haul(heavy, seen);
            }
        }
    }

    private Set<Integer> haulers(int thing) {
        Set<Integer> seen = new HashSet<>();
        haul(thing, seen);
        return seen;
    }

    public int hauled(int one, int other) {
        return !isPair(one, other) ? no(-1) : haulers(one).contains(other) ? 1 : 0;
    }

    public int top(int thing) {
        if (!isThing(thing)) {
            return no(-1);
        }
        Set<Integer> above = haulers(thing);
        int found = best(now.things.size(), -1, above::contains, now::heft);
        return found == -9 ? thing : found;
    }

    public int odd() {
        return now.loose();
    }

    public int meet(int one, int other) {
        return !isPair(one, other) ? no(-1) : when(0, s -> s.height(one) == s.height(other));
    }

    public int two(int a, int b, int n) {
        if (!isPair(a, b)) {
            return no(-1);
        }
        if (n < 0 || n > 30) {
            return no(n < 0 ? -4 : -6);
        }
        int[][] lead = new int[2][2];
        for (int x = 0; x < 2; x++) {
            for (int y = 0; y < 2; y++) {
                State then = now.copy();
                then.things.get(a).stones = Math.min(9, then.things.get(a).stones + 2 * x);
                then.things.get(b).stones = Math.min(9, then.things.get(b).stones + 2 * y);
                then.hours(n);
                lead[x][y] = then.height(a) - then.height(b);
            }
        }
        for (int x = 0; x < 2; x++) {
            for (int y = 0; y < 2; y++) {
                if (lead[1 - x][y] <= lead[x][y] && -lead[x][1 - y] <= -lead[x][y]) {
                    return 10 * x + y;
                }
            }
        }
        return -9;
    }

    private static long told(BigInteger above, BigInteger below, int part) {
        BigInteger g = above.gcd(below);
        return (part == 0 ? above : below).divide(g).longValueExact();
    }

    private static BigInteger wetWays(State from, int rope, int thing, int n, int t, int v) {
        if (n == 0) {
            return from.height(thing) >= v ? BigInteger.ONE : BigInteger.ZERO;
        }
        BigInteger dry = wetWays(from.copy().hour(-1), rope, thing, n - 1, t, v);
        BigInteger wet = wetWays(from.copy().hour(rope), rope, thing, n - 1, t, v);
        return dry.multiply(BigInteger.valueOf(t - 1)).add(wet);
    }

    public long wet(int rope, int thing, int n, int t, int v, int part) {
        int fault = !isRope(rope) || !isThing(thing) ? -1 : n < 0 || v < 0 || t < 2 ? -4
            : n > 7 || t > 20 || v > 20 ? -6 : part < 0 || part > 1 ? -2 : 0;
        if (fault != 0) {
            return 4000000000000000000L - no(fault);
        }
        return told(wetWays(now, rope, thing, n, t, v), BigInteger.valueOf(t).pow(n), part);
    }

    public long mean(int part) {
        if (part < 0 || part > 1) {
            return 4000000000000000000L - no(-2);
        }
        if (now.things.isEmpty()) {
            return part;
        }
        return told(BigInteger.valueOf(now.sum(t -> t.height)), BigInteger.valueOf(now.things.size()), part);
    }

    private boolean asTold(State from, int thing) {
        for (int i = 0; i < told.size(); i++) {
            if (from.copy().hours(i).height(thing) != told.get(i)) {
                return false;
            }
        }
        return true;
    }

    public int whatIs(int thing, int what) {
        if (!isThing(thing)) {
            return no(-1);
        }
        if (what < 0 || what > 1) {
            return no(-2);
        }
        Thing t = now.things.get(thing);
        int answer = 0;
        for (int i = 0; i <= (what == 0 ? 5 : 60); i++) {
            State then = now.copy();
            then.things.set(thing, what == 0 ? Thing.of(i, t.figure, t.weight, t.stones, t.height)
                : Thing.of(t.kind, t.figure, i, t.stones, t.height));
            answer += !asTold(then, thing) ? 0 : what == 0 ? 1 << i : 1;
        }
        return answer;
    }

    public int row(int v) {
        if (v < 0) {
            return no(-4);
        }
        if (v > 99 || told.size() == 16) {
            return no(-6);
        }
        told.add(v);
        return told.size();
    }

    public int judge() {
        List<Integer> all = new ArrayList<>(told);
        told.clear();
        for (int i = 0; i < all.size(); i++) {
            boolean second = i % 2 == 1;
            if (!isThing(all.get(i)) || !second && i == all.size() - 1) {
                return i;
            }
            if (second && now.heft(all.get(i - 1)) >= now.heft(all.get(i))) {
                return i;
            }
        }
        return -9;
    }

    public int clear() {
        int had = told.size();
        told.clear();
        return had;
    }

    public int lots(int n, int z, int what) {
        if (n < 1) {
            return no(-4);
        }
        if (n > 20) {
            return no(-6);
        }
        if (what < 0 || what > 1) {
            return no(-2);
        }
        BigInteger seed = BigInteger.valueOf(z);
        int answer = 0;
        for (int i = 0; i < n; i++) {
            State then = now.copy();
            for (Thing t : then.things) {
                seed = seed.multiply(BigInteger.valueOf(1664525)).add(BigInteger.valueOf(1013904223))
                    .mod(BigInteger.ONE.shiftLeft(32));
                t.stones = seed.clearBit(31).shiftRight(8).mod(BigInteger.TEN).intValue();
            }
            then.hours(10);
            answer += what == 0 ? then.sum(t -> t.height) : Integer.bitCount(then.loose());
        }
        return answer;
    }

    public int image() {
        kept = now.copy();
        return now.hour;
    }

    public int on() {
        if (kept == null) {
            return no(-3);
        }
        now = kept.copy();
        return now.hour;
    }

    public int count(int what) {
        switch (what) {
            case 0: return now.things.size();
            case 1: return now.ropes.size();
            case 2: return now.hour;
            case 3: return now.sum(t -> t.height);
            case 4: return now.sum(t -> t.stones);
            case 5: return now.sum(t -> t.heft(now.hour));
            case 6: return told.size();
            case 7: return letters.length();
            default: return what < 11 || what > 16 ? -9 : refusals.getOrDefault(10 - what, 0);
        }
    }
}
