import java.util.ArrayList;
import java.util.List;

/** What the tests of single promises have in common. */
abstract class Checks {
    static int promise = 0;
    private static int wrong = 0;

    static void due(String call, long got, long want) {
        if (got != want) {
            wrong++;
            System.out.println("promise " + promise + ": " + call + " answered " + got + ", due is " + want);
        }
    }

    static void must(String what, boolean so) {
        due(what, so ? 1 : 0, 1);
    }

    /** The end of a test: its exit code is 1 if an answer was not as due. */
    static void end(String well) {
        System.out.println(wrong == 0 ? well : wrong + " answers are not as due");
        if (wrong != 0) {
            System.exit(1);
        }
    }

    static void letters(RopesTieThemselves x, String text) {
        for (char c : text.toCharArray()) {
            x.letter(c);
        }
    }

    static int port(RopesTieThemselves x, String text) {
        letters(x, text);
        return x.port();
    }

    static RopesTieThemselves told(String text) {
        RopesTieThemselves x = new RopesTieThemselves();
        int statements = (int) text.chars().filter(c -> c == ';').count();
        due("port of " + text, port(x, text), statements);
        return x;
    }

    /** A port of more letters than can be told at once. */
    static RopesTieThemselves told(String text, String more) {
        RopesTieThemselves x = told(text);
        due("port of " + more, port(x, more), more.chars().filter(c -> c == ';').count());
        return x;
    }

    static int[] heights(RopesTieThemselves x) {
        int[] all = new int[x.count(0)];
        for (int i = 0; i < all.length; i++) {
            all[i] = x.thing(i, 4);
        }
        return all;
    }

    /** All that can be seen without a change, but for how many refusals there were. */
    static List<Long> seen(RopesTieThemselves x) {
        List<Long> all = new ArrayList<>();
        for (int what = 0; what < 8; what++) {
            all.add((long) x.count(what));
        }
        for (int i = 0; i < x.count(0); i++) {
            for (int what = 0; what < 6; what++) {
                all.add((long) x.thing(i, what));
            }
            // The row's own numbers show in what it tells of a thing.
            all.add((long) x.whatIs(i, 0));
        }
        for (int i = 0; i < x.count(1); i++) {
            all.add((long) x.rope(i, 0));
            all.add((long) x.rope(i, 1));
        }
        return all;
    }

    static List<Integer> refusals(RopesTieThemselves x) {
        List<Integer> all = new ArrayList<>();
        for (int what = 11; what <= 16; what++) {
            all.add(x.count(what));
        }
        return all;
    }
}
