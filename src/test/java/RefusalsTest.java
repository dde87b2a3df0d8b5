import java.lang.reflect.Method;
import java.util.ArrayList;
import java.util.Arrays;
import java.util.LinkedHashMap;
import java.util.List;
import java.util.Map;
import java.util.TreeSet;

/**
 * What each promise refuses, as a table in the order in which the promise tells it. Every call is made
 * with every mix of arguments at their bounds and just beyond them, in ports that are empty, have one
 * THING, have some room, and have no room left: so each bound is tried from both sides, and every two
 * reasons to refuse are tried together. Behind a refusal all must be as in a twin that was not asked,
 * but for one refusal more of that kind; behind an answer that changes nothing, just as in the twin.
 */
public final class RefusalsTest {
    private static final int LEAST = Integer.MIN_VALUE;
    private static final int MOST = Integer.MAX_VALUE;
    private static final long LONG_NO = 4000000000000000000L;
    private static final int MOST_CALLS = 512;

    /** How an object is made ahead of the call, with what the table must know of it. */
    private enum Start {
        EMPTY(0, 0, 0, "", new int[0], false),
        ONE(1, 0, 0, "tt0", new int[] {0}, false),
        SOME(3, 2, 977, "tt005;h", new int[] {0, 1, 0, 1, 1}, true),
        FULL(8, 6, 999, "s00;".repeat(23) + "s79;", new int[] {0, 1, 0, 1, 0, 1, 0, 1, 0, 1, 0, 1, 0, 1, 1, 0}, true);

        final int things;
        final int ropes;
        final int hour;
        final String letters;
        final int[] row;
        final boolean hasImage;

        Start(int things, int ropes, int hour, String letters, int[] row, boolean hasImage) {
            this.things = things;
            this.ropes = ropes;
            this.hour = hour;
            this.letters = letters;
            this.row = row;
            this.hasImage = hasImage;
        }
    }

    /** An object that counts its calls: nothing is promised of more than 512. */
    private static final class Used {
        final RopesTieThemselves x = new RopesTieThemselves();
        int calls = 0;

        long call(String name, int... args) {
            calls++;
            if (calls > MOST_CALLS) {
                throw new IllegalStateException("a test of more than 512 calls");
            }
            Object[] given = Arrays.stream(args).boxed().toArray();
            try {
                return ((Number) METHODS.get(name).invoke(x, given)).longValue();
            } catch (ReflectiveOperationException e) {
                throw new IllegalStateException(name + Arrays.toString(args) + " throws", e);
            }
        }

        void tell(String text) {
            for (char c : text.toCharArray()) {
                call("letter", c);
            }
        }
    }

    private interface Fits {
        boolean test(Start start, int[] args);
    }

    private record Reason(int code, Fits fits) {
    }

    /** The values that an argument is tried with. */
    private interface Tried {
        int[] values(Start start);
    }

    private record Call(String name, boolean changes, List<Tried> tried, List<Reason> reasons) {
    }

    private static final Map<String, Method> METHODS = methods();
    private static int wrong = 0;
    private static int refusalsTried = 0;

    private static Map<String, Method> methods() {
        Map<String, Method> all = new LinkedHashMap<>();
        for (Method method : RopesTieThemselves.class.getDeclaredMethods()) {
            if (java.lang.reflect.Modifier.isPublic(method.getModifiers())) {
                all.put(method.getName(), method);
            }
        }
        return all;
    }

    private static void must(boolean so, String what) {
        if (!so) {
            wrong++;
            System.out.println(what);
        }
    }

    // ---- what an argument is tried with

    private static Tried aThing() {
        return start -> new int[] {LEAST, -1, 0, start.things - 1, start.things, MOST};
    }

    private static Tried aRope() {
        return start -> new int[] {LEAST, -1, 0, start.ropes - 1, start.ropes, MOST};
    }

    private static Tried from(int least, int most) {
        return start -> new int[] {LEAST, least - 1, least, most, most + 1, MOST};
    }

    /** Without the numbers far off: for calls of many arguments. */
    private static Tried closely(int least, int most) {
        return start -> new int[] {least - 1, least, most, most + 1};
    }

    private static Tried each(int... values) {
        return start -> values;
    }

    // ---- reasons to refuse

    private static Reason noThing(int... places) {
        return new Reason(-1, (start, args) ->
            Arrays.stream(places).anyMatch(i -> args[i] < 0 || args[i] >= start.things));
    }

    private static Reason noRope(int place) {
        return new Reason(-1, (start, args) -> args[place] < 0 || args[place] >= start.ropes);
    }

    private static Reason oneTwice() {
        return new Reason(-1, (start, args) -> args[0] == args[1]);
    }

    private static Reason other(int place, int most) {
        return new Reason(-2, (start, args) -> args[place] < 0 || args[place] > most);
    }

    private static Reason below(int place, int least) {
        return new Reason(-4, (start, args) -> args[place] < least);
    }

    private static Reason above(int place, int most) {
        return new Reason(-6, (start, args) -> args[place] > most);
    }

    private static Reason when(int code, Fits fits) {
        return new Reason(code, fits);
    }

    private static Call asks(String name, List<Tried> tried, Reason... reasons) {
        return new Call(name, false, tried, List.of(reasons));
    }

    private static Call does(String name, List<Tried> tried, Reason... reasons) {
        return new Call(name, true, tried, List.of(reasons));
    }

    /** Promises 2 to 44, in the document's words: of whom, and in which order. */
    private static List<Call> table() {
        List<Call> all = new ArrayList<>();
        all.add(does("letter", List.of(from(0, 255)),
            below(0, 0), above(0, 255), when(-6, (s, a) -> s.letters.length() == 96)));
        all.add(does("port", List.of()));
        all.add(asks("thing", List.of(aThing(), from(0, 5)), noThing(0), other(1, 5)));
        all.add(asks("rope", List.of(aRope(), from(0, 2)), noRope(0), other(1, 2)));
        all.add(does("ties", List.of(aThing(), aThing()), noThing(0, 1), oneTwice(), when(-6, (s, a) -> s.ropes == 6)));
        all.add(does("cuts", List.of(aRope()), noRope(0)));
        all.add(does("stones", List.of(aThing(), from(0, 9)), noThing(0), below(1, 0), above(1, 9)));
        all.add(does("weighs", List.of(aThing(), from(0, 60)), noThing(0), below(1, 0), above(1, 60)));
        all.add(does("lifts", List.of(aThing(), from(0, 20)), noThing(0), below(1, 0), above(1, 20)));
        all.add(does("turn", List.of(aThing(), from(0, 5), from(0, 9)),
            noThing(0), other(1, 5), below(2, 0), above(2, 9)));
        all.add(does("hours", List.of(each(LEAST, -1, 0, 1, 22, 23, 59, 60, 61, MOST)),
            below(0, 1), above(0, 60), when(-6, (s, a) -> s.hour + a[0] > 999)));
        all.add(asks("thingThen", List.of(aThing(), from(0, 99), from(0, 1)),
            noThing(0), below(1, 0), above(1, 99), other(2, 1)));
        all.add(asks("ropeThen", List.of(aRope(), from(0, 99)), noRope(0), below(1, 0), above(1, 99)));
        all.add(asks("up", List.of(aThing(), from(0, 20)), noThing(0), below(1, 0), above(1, 20)));
        all.add(asks("first", List.of(from(0, 2)), other(0, 2)));
        all.add(asks("changes", List.of(aRope()), noRope(0)));
        for (String name : List.of("throwsDown", "takesUp")) {
            all.add(asks(name, List.of(aThing(), from(0, 20), from(0, 30)),
                noThing(0), below(1, 0), below(2, 0), above(1, 20), above(2, 30)));
        }
        for (String name : List.of("bestTie", "bestCut")) {
            all.add(asks(name, List.of(aThing(), from(0, 30)), noThing(0), below(1, 0), above(1, 30)));
        }
        all.add(asks("bestStone", List.of(from(0, 30)), below(0, 0), above(0, 30)));
        all.add(asks("rows", List.of(each(LEAST, -1, 0, 1, 2, 3, 7, 8, MOST)), below(0, 0)));
        for (String name : List.of("between", "hauled", "meet")) {
            all.add(asks(name, List.of(aThing(), aThing()), noThing(0, 1), oneTwice()));
        }
        for (String name : List.of("balance", "nearest", "chain", "top")) {
            all.add(asks(name, List.of(aThing()), noThing(0)));
        }
        all.add(asks("chains", List.of(from(0, 2)), other(0, 2)));
        all.add(asks("sides", List.of(from(0, 1)), other(0, 1)));
        all.add(asks("odd", List.of()));
        all.add(asks("two", List.of(aThing(), aThing(), from(0, 30)),
            noThing(0, 1), oneTwice(), below(2, 0), above(2, 30)));
        all.add(asks("wet",
            List.of(aRope(), aThing(), closely(0, 7), closely(2, 20), closely(0, 20), closely(0, 1)),
            noRope(0), noThing(1), below(2, 0), below(4, 0), below(3, 2), above(2, 7), above(3, 20), above(4, 20),
            other(5, 1)));
        all.add(asks("mean", List.of(from(0, 1)), other(0, 1)));
        all.add(asks("whatIs", List.of(aThing(), from(0, 1)), noThing(0), other(1, 1)));
        all.add(does("row", List.of(from(0, 99)), below(0, 0), above(0, 99), when(-6, (s, a) -> s.row.length == 16)));
        all.add(does("judge", List.of()));
        all.add(does("clear", List.of()));
        all.add(asks("lots", List.of(from(1, 20), each(LEAST, -1, 0, MOST), from(0, 1)),
            below(0, 1), above(0, 20), other(2, 1)));
        all.add(does("image", List.of()));
        all.add(does("on", List.of(), when(-3, (s, a) -> !s.hasImage)));
        all.add(asks("count", List.of(each(LEAST, -1, 0, 1, 2, 3, 4, 5, 6, 7, 8, 9, 10, 11, 12, 13, 14, 15, 16, 17, MOST))));
        return all;
    }

    // ---- objects at the start, and all that can be seen of them

    private static Used made(Start start) {
        Used used = new Used();
        String[] things = {"tt010;", "ts511;", "tb308;", "tp712;", "tf430;", "ti201;", "tt000;", "tb060;"};
        String[] ropes = {"r01;", "r12;", "r20;", "r34;", "r56;", "r67;"};
        StringBuilder text = new StringBuilder();
        for (int i = 0; i < start.things; i++) {
            text.append(things[i]);
        }
        for (int i = 0; i < start.ropes; i++) {
            text.append(ropes[i]);
        }
        used.tell(text.toString());
        used.call("port");
        if (start.hasImage) {
            used.call("lifts", 1, 13);
            used.call("stones", 2, 9);
            used.call("image");
            used.call("lifts", 1, 7);
            used.call("weighs", 0, 9);
        }
        for (int left = start.hour; left > 0; left -= 60) {
            used.call("hours", Math.min(60, left));
        }
        used.tell(start.letters);
        for (int v : start.row) {
            used.call("row", v);
        }
        return used;
    }

    private static List<Long> refusals(Used used) {
        List<Long> all = new ArrayList<>();
        for (int what = 11; what <= 16; what++) {
            all.add(used.call("count", what));
        }
        return all;
    }

    private static void addThings(Used used, List<Long> all) {
        for (int what = 0; what <= 7; what++) {
            all.add(used.call("count", what));
        }
        for (int i = 0; i < all.get(0); i++) {
            for (int what = 0; what <= 4; what++) {
                all.add(used.call("thing", i, what));
            }
        }
    }

    private static void addRopes(Used used, List<Long> all) {
        for (int i = 0; i < used.call("count", 1); i++) {
            all.add(used.call("rope", i, 0));
            all.add(used.call("rope", i, 1));
        }
    }

    /** All of it: things, ropes, the row, the letters, and the image at last; the object is used up by it. */
    private static List<Long> seen(Used used) {
        List<Long> all = new ArrayList<>();
        addThings(used, all);
        addRopes(used, all);
        for (int i = 0; i < Math.min(2, all.get(0)); i++) {
            all.add(used.call("whatIs", i, 0));
        }
        all.add(used.call("judge"));
        // What was told so far is the beginning of a port that these letters end.
        used.tell(all.get(7) == 96 ? "" : all.get(7) == 7 ? "01;" : all.get(7) == 3 ? "05;" : "tt005;");
        all.add(used.call("port"));
        addThings(used, all);
        all.add(used.call("on"));
        addThings(used, all);
        addRopes(used, all);
        return all;
    }

    // ---- the trial

    private static int due(Call call, Start start, int[] args) {
        for (Reason reason : call.reasons) {
            if (reason.fits.test(start, args)) {
                return reason.code;
            }
        }
        return 0;
    }

    private static boolean isRefusal(String name, long answer) {
        boolean isLong = METHODS.get(name).getReturnType() == long.class;
        long code = isLong ? LONG_NO - answer : answer;
        return code <= -1 && code >= -6;
    }

    private static void tryOne(Call call, Start start, int[] args, List<Long> twin) {
        Used used = made(start);
        List<Long> counted = refusals(used);
        int code = due(call, start, args);
        long answer = used.call(call.name, args);
        String told = call.name + Arrays.toString(args) + " of " + start + " answered " + answer;
        if (code == 0) {
            must(!isRefusal(call.name, answer), told + ", which is no refusal");
        } else {
            refusalsTried++;
            boolean isLong = METHODS.get(call.name).getReturnType() == long.class;
            must(answer == (isLong ? LONG_NO - code : code), told + ", due is the refusal " + code);
            counted.set(-code - 1, counted.get(-code - 1) + 1);
        }
        must(refusals(used).equals(counted), told + ": refusals are " + refusals(used) + ", due is " + counted);
        if (code != 0 || !call.changes) {
            must(seen(used).equals(twin), told + ": and something changed");
        }
    }

    private static void tryAll(Call call, Start start, List<Long> twin, int[] args, int place) {
        if (place == args.length) {
            tryOne(call, start, args.clone(), twin);
            return;
        }
        TreeSet<Integer> values = new TreeSet<>();
        for (int v : call.tried.get(place).values(start)) {
            values.add(v);
        }
        for (int v : values) {
            args[place] = v;
            tryAll(call, start, twin, args, place + 1);
        }
    }

    public static void main(String[] args) {
        List<Call> table = table();
        must(table.size() == 43, "the table has " + table.size() + " calls");
        for (Start start : Start.values()) {
            Used first = made(start);
            must(first.call("count", 0) == start.things && first.call("count", 1) == start.ropes
                && first.call("count", 2) == start.hour && first.call("count", 6) == start.row.length
                && first.call("count", 7) == start.letters.length(), start + " is not made as told");
            must(refusals(first).equals(List.of(0L, 0L, 0L, 0L, 0L, 0L)), start + " has refusals");
            List<Long> twin = seen(made(start));
            for (Call call : table) {
                must(METHODS.get(call.name).getParameterCount() == call.tried.size(), "arguments of " + call.name);
                tryAll(call, start, twin, new int[call.tried.size()], 0);
            }
        }
        System.out.println(wrong == 0 ? refusalsTried + " refusals are as told" : wrong + " things are not as told");
        if (wrong != 0) {
            System.exit(1);
        }
    }
}
