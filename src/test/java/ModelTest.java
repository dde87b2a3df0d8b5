import java.lang.reflect.Method;
import java.util.ArrayList;
import java.util.Arrays;
import java.util.Comparator;
import java.util.List;
import java.util.Random;

/** Random runs of calls on the class and on the model, which must answer alike. */
public final class ModelTest {
    private static final int RUNS = 2500;
    private static final int CALLS = 512;
    private static final int[] EXTREMES =
        {Integer.MIN_VALUE, Integer.MIN_VALUE + 1, -1000, -2, -1, 31, 32, 100, 256, 1000, Integer.MAX_VALUE};

    private final Random random;
    private final RopesTieThemselves real = new RopesTieThemselves();
    private final Model model = new Model();
    /** Gets about every other call, too: what is done to one object is nothing to another. */
    private final RopesTieThemselves bystander = new RopesTieThemselves();
    private final Random forBystander;
    private final List<String> calls = new ArrayList<>();
    private boolean wrong = false;

    private ModelTest(long seed) {
        random = new Random(seed);
        forBystander = new Random(-seed);
        Checks.port(bystander, "tt010;ts512;tp711;r01;r12;r20;u009;u213;h03;");
    }

    private static Method[] methods() {
        Method[] all = Arrays.stream(RopesTieThemselves.class.getDeclaredMethods())
            .filter(m -> java.lang.reflect.Modifier.isPublic(m.getModifiers())).toArray(Method[]::new);
        Arrays.sort(all, Comparator.comparing(Method::getName));
        return all;
    }

    private long call(Method method, Object... args) throws ReflectiveOperationException {
        Method twin = Model.class.getMethod(method.getName(), method.getParameterTypes());
        long got = ((Number) method.invoke(real, args)).longValue();
        long want = ((Number) twin.invoke(model, args)).longValue();
        calls.add(method.getName() + Arrays.toString(args) + " = " + got);
        if (calls.size() < CALLS - 80 && forBystander.nextBoolean()) {
            method.invoke(bystander, args);
        }
        if (got != want) {
            wrong = true;
            System.out.println(String.join("\n", calls));
            System.out.println("answered " + got + ", the model says " + want);
        }
        return got;
    }

    private static Method named(Method[] all, String name) {
        return Arrays.stream(all).filter(m -> m.getName().equals(name)).findFirst().orElseThrow();
    }

    private String statement(int things, int ropes) {
        int t = random.nextInt(Math.max(1, things) + (random.nextInt(12) == 0 ? 1 : 0)) % 10;
        int u = random.nextInt(Math.max(1, things) + (random.nextInt(12) == 0 ? 1 : 0)) % 10;
        switch (random.nextInt(things < 2 ? 3 : 12)) {
            case 0: case 1: case 2:
                return "t" + "tpbsfi".charAt(random.nextInt(6)) + random.nextInt(10)
                    + String.format("%02d;", random.nextInt(random.nextInt(8) == 0 ? 64 : 26));
            case 3: case 4: case 5: case 6:
                return "r" + t + (t == u && random.nextInt(10) > 0 ? (t + 1) % Math.max(2, Math.min(10, things)) : u) + ";";
            case 7:
                return "c" + random.nextInt(Math.min(9, ropes) + 1) + ";";
            case 8:
                return "s" + t + random.nextInt(10) + ";";
            case 9: case 10:
                return "u" + t + String.format("%02d;", random.nextInt(random.nextInt(8) == 0 ? 30 : 21));
            default:
                return "h" + String.format("%02d;", random.nextInt(random.nextInt(5) == 0 ? 70 : 12));
        }
    }

    /** A text that is mostly a port. */
    private String text() {
        StringBuilder text = new StringBuilder();
        int things = model.count(0);
        int ropes = model.count(1);
        for (int i = random.nextInt(9); i >= 0; i--) {
            String more = statement(things, ropes);
            text.append(more);
            things += more.charAt(0) == 't' ? 1 : 0;
            ropes += more.charAt(0) == 'r' ? 1 : 0;
        }
        if (random.nextInt(6) == 0) {
            text.setCharAt(random.nextInt(text.length()), "trcsuh;0129xpbfi/:\u00e9".charAt(random.nextInt(19)));
        }
        if (random.nextInt(10) == 0) {
            text.setLength(random.nextInt(text.length() + 1));
        }
        return text.toString();
    }

    private int argument(String name, int place) {
        if (random.nextInt(40) == 0) {
            return EXTREMES[random.nextInt(EXTREMES.length)];
        }
        boolean isThing = place == 0 && !List.of("rows", "row", "count", "first", "chains", "sides", "mean", "hours",
            "lots", "bestStone", "letter", "rope", "ropeThen", "cuts", "changes", "wet").contains(name)
            || place == 1 && List.of("ties", "between", "hauled", "meet", "two", "wet").contains(name);
        boolean isRope = place == 0 && List.of("rope", "ropeThen", "cuts", "changes", "wet").contains(name);
        if (isThing || isRope) {
            return random.nextInt(model.count(isThing ? 0 : 1) + (random.nextInt(15) == 0 ? 2 : 1)) - random.nextInt(20) / 19;
        }
        switch (name) {
            case "count": return random.nextInt(19) - 1;
            case "lots": return place == 0 ? random.nextInt(23) - 1 : place == 1 ? random.nextInt() : random.nextInt(10) / 3 - 1;
            case "turn": return random.nextInt(place == 1 ? 8 : 12) - 1;
            case "wet": return place == 2 ? random.nextInt(9) : place == 3 ? random.nextInt(21) + 1 : place == 4
                ? random.nextInt(23) - 1 : random.nextInt(9) / 4;
            case "row": return random.nextInt(6) == 0 ? random.nextInt(102) - 1 : random.nextInt(10);
            case "first": case "chains": return random.nextInt(5) - 1;
            case "sides": case "mean": return random.nextInt(4) - 1;
            case "rows": return random.nextInt(11) - 1;
            case "hours": return random.nextInt(8) == 0 ? random.nextInt(63) : random.nextInt(6);
            case "stones": return random.nextInt(12) - 1;
            case "weighs": return random.nextInt(random.nextInt(4) == 0 ? 64 : 26) - 1;
            case "lifts": case "up": return random.nextInt(23) - 1;
            case "thing": return random.nextInt(8) - 1;
            case "rope": return random.nextInt(5) - 1;
            case "whatIs": return random.nextInt(4) - 1;
            case "thingThen": return place == 1 ? random.nextInt(102) - 1 : random.nextInt(4) - 1;
            case "ropeThen": return random.nextInt(102) - 1;
            case "throwsDown": case "takesUp": return random.nextInt(place == 1 ? 23 : 33) - 1;
            default: return random.nextInt(34) - 1;
        }
    }

    /** Heights as a thing will truly have them, so that a row is now and then as told. */
    private void tellTrueRow(Method[] all) throws ReflectiveOperationException {
        if (model.count(0) == 0) {
            return;
        }
        int thing = random.nextInt(model.count(0));
        call(named(all, "clear"));
        for (int i = 0; i < random.nextInt(17); i++) {
            call(named(all, "row"), model.thingThen(thing, i, 0));
        }
        call(named(all, "whatIs"), thing, 0);
        call(named(all, "whatIs"), thing, 1);
    }

    private void run() throws ReflectiveOperationException {
        Method[] all = methods();
        // Nothing is promised of more calls than these: the longest turn below and the counts have room.
        while (calls.size() < CALLS - 80 && !wrong) {
            int choice = random.nextInt(40);
            if (choice == 0 || model.count(0) < 2 && random.nextInt(4) == 0) {
                for (char c : text().toCharArray()) {
                    call(named(all, "letter"), (int) c);
                }
                call(named(all, "port"));
            } else if (choice == 1) {
                tellTrueRow(all);
            } else if (choice == 2 && random.nextInt(4) == 0) {
                for (int i = 0; i < 17; i++) {
                    call(named(all, "hours"), 50 + random.nextInt(11));
                }
            } else {
                Method method = all[random.nextInt(all.length)];
                Object[] args = new Object[method.getParameterCount()];
                for (int i = 0; i < args.length; i++) {
                    args[i] = argument(method.getName(), i);
                }
                call(method, args);
            }
        }
        for (int what = -1; what <= 17 && !wrong; what++) {
            call(named(all, "count"), what);
        }
    }

    public static void main(String[] args) throws ReflectiveOperationException {
        int wrongRuns = 0;
        for (int seed = 1; seed <= RUNS && wrongRuns < 3; seed++) {
            ModelTest test = new ModelTest(seed);
            test.run();
            wrongRuns += test.wrong ? 1 : 0;
        }
        System.out.println(wrongRuns == 0 ? "all runs are as the model's" : wrongRuns + " runs are not as the model's");
        if (wrongRuns != 0) {
            System.exit(1);
        }
    }
}
