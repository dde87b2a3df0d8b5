import java.util.ArrayList;
import java.util.Arrays;
import java.util.List;
import java.util.function.Function;

/**
 * The document's sentences that name a bound, in its order, but for what is refused (RefusalsTest):
 * the last that is so and the first that isn't, nothing there and no room left. Each method begins with
 * the words that it holds the class to.
 */
public final class BoundariesTest extends Checks {
    private static final String KINDS = "tpbsfi";

    public static void main(String[] args) {
        thingsAreEightAtMost();
        ropesAreSixAtMost();
        lettersAreNinetySixAtMost();
        signsOfStatements();
        unendedTexts();
        firstOfSeveralFaults();
        numbersOfStatements();
        thingsAndRopesSoFar();
        hourOfAPort();
        withAFaultNothing();
        heftsByTheDay();
        heftsLeastAndMost();
        holdsToTheGreater();
        heightsFrom0To20();
        thoughtPasses999();
        hoursOn();
        upFirstRests();
        changesFrom1();
        throwsAllItHas();
        takesNineInAll();
        tiesForHeight();
        cutsForHeight();
        aStoneMore();
        rowsToTheLast();
        betweenNeithersOwn();
        balances();
        nearestOfNone();
        chainsAndRings();
        sidesOfFew();
        hauledAndTop();
        oddRopes();
        meetFrom0();
        twoAtNine();
        wetLimits();
        meansInLeastTerms();
        whatItIsAtTheEnds();
        judgedPlaces();
        lotsAndDraws();
        theImage();
        counts();
        theLastCalls();
        end("all bounds are as told");
    }

    private static String two(int number) {
        return number < 10 ? "0" + number : "" + number;
    }

    private static RopesTieThemselves things(int n) {
        return n == 0 ? new RopesTieThemselves() : told("tt010;".repeat(n));
    }

    /** Goes to an hour by as few calls as can be. */
    private static RopesTieThemselves atHour(RopesTieThemselves x, int hour) {
        for (int left = hour - x.count(2); left > 0; left -= 60) {
            x.hours(Math.min(60, left));
        }
        due("hour", x.count(2), hour);
        return x;
    }

    // ---- Terms: the port and its letters

    /** "THINGS 0 .. as they come (8 at most)": the 8th comes, a 9th is a FAULT, whether told at once or not. */
    private static void thingsAreEightAtMost() {
        promise = 3;
        for (int n = 1; n <= 8; n++) {
            RopesTieThemselves x = things(n);
            due("things", x.count(0), n);
            due("the last one's weight", x.thing(n - 1, 2), 10);
            int room = 8 - n;
            if (room > 0) {
                due("all that there is room for", port(x, "ti900;".repeat(room)), room);
                due("the 8th's kind", x.thing(7, 0), 5);
            }
            due("a 9th", port(x, "tt000;"), -2000);
            due("things", x.count(0), 8);
        }
        due("nine at once", port(new RopesTieThemselves(), "tt010;".repeat(9)), -2048);
        due("a 9th behind others that are fine", port(things(7), "tt000;s70;tt000;"), -2010);
    }

    /** "ROPES 0 .. as they come (6 at most)": also a port's "r" and what "c" makes room for. */
    private static void ropesAreSixAtMost() {
        promise = 3;
        for (int n = 0; n <= 6; n++) {
            RopesTieThemselves x = things(3);
            for (int i = 0; i < n; i++) {
                due("ties", x.ties(0, 1), i);
            }
            due("all that there is room for", n == 6 ? 0 : port(x, "r12;".repeat(6 - n)), 6 - n);
            due("ropes", x.count(1), 6);
            due("the last one's ends", x.rope(5, 0) * 10 + x.rope(5, 1), n == 6 ? 1 : 12);
            due("a 7th", port(x, "r20;"), -2000);
            due("a 7th behind a cut of one", port(x, "c5;r20;r20;"), -2007);
            due("a 6th behind a cut of one", port(x, "c5;r20;"), 2);
            due("its ends", x.rope(5, 0) * 10 + x.rope(5, 1), 20);
        }
    }

    /** "letters, one by one (96 at most)"; "how many there are" of them; they "are no more" behind port(). */
    private static void lettersAreNinetySixAtMost() {
        promise = 2;
        RopesTieThemselves x = things(1);
        letters(x, "s00;".repeat(23) + "s0");
        due("95th", x.letter('7'), 95);
        due("96th", x.letter(';'), 96);
        due("97th", x.letter('x'), -6);
        due("count(7)", x.count(7), 96);
        promise = 3;
        due("96 letters come", x.port(), 24);
        due("the last of them too", x.thing(0, 3), 7);
        due("letters are no more", x.count(7), 0);
        due("there is room again", x.letter('t'), 1);
        due("the letter alone", x.port(), -1001);
        due("letters are no more, with a fault neither", x.count(7), 0);
        due("96 letters, the last a fault", port(x, "s00;".repeat(24).substring(0, 95) + "0"), -1095);
        due("96 letters, the last statement a fault", port(x, "s00;".repeat(23) + "s10;"), -2092);
        due("96 letters, and something lacks", port(x, "s00;".repeat(22) + "tt000;s0"), -1096);
    }

    /** "the place of the first letter with which no PORT can go on": each sign at each place of each statement. */
    private static void signsOfStatements() {
        promise = 3;
        String[] forms = {"tk000;", "r00;", "c0;", "s00;", "u000;", "h00;"};
        for (String form : forms) {
            String fine = form.replace('k', 't').replace("r00", "r01").replace("h00", "h01");
            for (int place = 0; place < form.length(); place++) {
                for (int c = 0; c <= 255; c++) {
                    signAt(fine, place, c, form.charAt(place));
                }
            }
        }
    }

    private static void signAt(String fine, int place, int c, char form) {
        boolean may = form == 'k' ? KINDS.indexOf(c) >= 0 : form == '0' ? c >= '0' && c <= '9'
            : place == 0 ? "trcsuh".indexOf(c) >= 0 : c == ';';
        RopesTieThemselves x = told("tt010;tt011;r01;");
        // A statement ahead of it: places go on through the text.
        letters(x, "c0;r01;");
        letters(x, fine.substring(0, place));
        x.letter(c);
        letters(x, fine.substring(place + 1));
        int answer = x.port();
        boolean faultHere = answer == -1007 - place;
        must("sign " + c + " at " + place + " of " + fine + ", " + answer, faultHere != may);
        if (may && place > 0) {
            must("sign " + c + " at " + place + " of " + fine + " is no fault of the letters, " + answer,
                answer == 3 || answer == -2007);
        }
    }

    /** "(the end, if something lacks)"; "At least one STATEMENT". */
    private static void unendedTexts() {
        promise = 3;
        String text = "tt010;ti999;r01;c0;s05;u120;h60;";
        due("nothing told", new RopesTieThemselves().port(), -1000);
        int whole = 0;
        for (int length = 1; length <= text.length(); length++) {
            boolean ends = text.charAt(length - 1) == ';';
            whole += ends ? 1 : 0;
            // A fault of the letters is told ahead of the weight 99, which is one of the meaning.
            int want = !ends ? -1000 - length : length > 6 ? -2006 : whole;
            due("the first " + length, port(new RopesTieThemselves(), text.substring(0, length)), want);
        }
    }

    /** "the first letter", "else kind 2 the place of the first letter of the first STATEMENT that .. is not as it must be". */
    private static void firstOfSeveralFaults() {
        promise = 3;
        due("two of the letters", port(things(1), "tx000;x"), -1001);
        due("two of the letters, the end one of them", port(things(1), "s00,s0"), -1003);
        due("two of the meaning", port(things(1), "s00;s10;s20;"), -2004);
        due("two of the meaning in one statement", port(things(8), "s00;tt099;"), -2004);
        due("one of each, the meaning first", port(things(1), "s90;s0;"), -1006);
        due("one of each, the letters first", port(things(1), "s0;s90;"), -1002);
        due("one of the meaning, and the end lacks", port(things(1), "s90;s00"), -1007);
    }

    /** "(a number out of range .. one THING twice ..)": each number that the letters can tell. */
    private static void numbersOfStatements() {
        promise = 3;
        for (int n = 0; n <= 99; n++) {
            RopesTieThemselves x = new RopesTieThemselves();
            due("weight " + n, port(x, "tt0" + two(n) + ";"), n <= 60 ? 1 : -2000);
            due("the weight of it", x.thing(0, 2), n <= 60 ? n : -1);
            RopesTieThemselves y = told("tt010;u005;");
            due("height " + n, port(y, "u0" + two(n) + ";"), n <= 20 ? 1 : -2000);
            due("the height of it", y.thing(0, 4), n <= 20 ? n : 5);
            RopesTieThemselves z = told("h07;");
            due("hours " + n, port(z, "h" + two(n) + ";"), n >= 1 && n <= 60 ? 1 : -2000);
            due("the hour of it", z.count(2), n >= 1 && n <= 60 ? 7 + n : 7);
        }
        for (int n = 0; n <= 9; n++) {
            RopesTieThemselves x = told("t" + KINDS.charAt(n % 6) + n + "10;s0" + n + ";");
            due("kind", x.thing(0, 0), n % 6);
            due("figure", x.thing(0, 1), n);
            due("stones", x.thing(0, 3), n);
        }
    }

    /** "no such THING, ROPE so far": each digit with 0 .. 8 THINGS, 0 .. 6 ROPES. */
    private static void thingsAndRopesSoFar() {
        promise = 3;
        for (int n = 0; n <= 8; n++) {
            for (int d = 0; d <= 9; d++) {
                due("s" + d + "5; of " + n, port(things(n), "s" + d + "5;"), d < n ? 1 : -2000);
                due("u" + d + "05; of " + n, port(things(n), "u" + d + "05;"), d < n ? 1 : -2000);
                for (int e = 0; e <= 9; e++) {
                    due("r" + d + e + "; of " + n, port(things(n), "r" + d + e + ";"), d < n && e < n && d != e ? 1 : -2000);
                }
            }
        }
        for (int n = 0; n <= 6; n++) {
            for (int d = 0; d <= 9; d++) {
                RopesTieThemselves x = things(2);
                for (int i = 0; i < n; i++) {
                    x.ties(0, 1);
                }
                due("c" + d + "; of " + n, port(x, "c" + d + ";"), d < n ? 1 : -2000);
            }
        }
        due("what comes ahead is there", port(things(0), "tt000;s00;tt000;r10;c0;"), 5);
        due("what comes behind isn't", port(things(0), "tt000;s10;tt000;"), -2006);
        due("a rope that comes behind", port(things(2), "c0;r01;"), -2000);
        due("a rope that is cut", port(things(2), "r01;c0;c0;"), -2007);
        RopesTieThemselves x = told("tt010;tt010;tt010;r01;r12;r20;c0;c0;");
        due("those behind it have 1 less", x.rope(0, 0) * 10 + x.rope(0, 1), 20);
        due("one is left", x.count(1), 1);
    }

    /** "HOUR (0 .. 999; 0 at first)", "HOUR above 999". */
    private static void hourOfAPort() {
        promise = 3;
        due("hour at first", new RopesTieThemselves().count(2), 0);
        RopesTieThemselves x = told("h60;".repeat(16) + "h39;");
        due("999", x.count(2), 999);
        due("above", port(x, "h01;"), -2000);
        due("60 above", port(x, "h60;"), -2000);
        due("to 1000 at once", port(new RopesTieThemselves(), "h60;".repeat(16) + "h40;"), -2064);
        RopesTieThemselves y = atHour(new RopesTieThemselves(), 950);
        due("950 and 50", port(y, "h50;"), -2000);
        due("950 and 48 and 2", port(y, "h48;h02;"), -2004);
        due("950 and 49", port(y, "h49;"), 1);
        due("999", y.count(2), 999);
        due("on() makes hours of it again, image()", told("h60;").image(), 60);
    }

    /** "Without FAULT all of it comes, with one nothing"; "the FAULT (nothing is counted)". */
    private static void withAFaultNothing() {
        promise = 3;
        for (String fault : List.of("s90;", "x", "s0", "h61;", "r22;", "c9;")) {
            RopesTieThemselves x = told("tb310;tt011;r01;s12;u107;h05;");
            x.row(1);
            x.image();
            x.lifts(0, 9);
            List<Long> before = seen(x);
            int answer = port(x, "tt005;r02;c0;s09;u120;h09;" + fault);
            must("a fault of " + fault, answer == -1026 || answer == -1028 || answer == -2026);
            must("nothing came ahead of " + fault, seen(x).equals(before));
            due("refusals", refusals(x).stream().mapToInt(Integer::intValue).sum(), 0);
            due("the image stays", x.on(), 5);
            due("the image's height", x.thing(0, 4), 5);
            due("without a fault all of it", port(x, "tt005;r02;c0;s09;u120;h09;"), 6);
            due("things", x.count(0), 3);
            due("hour", x.count(2), 14);
        }
    }

    // ---- Terms: hefts, holding, an hour

    /** "in HOURS of which the rest by 24 is 12 .. 17", "0 .. 5", "in odd HOURS": each hour of three days. */
    private static void heftsByTheDay() {
        promise = 4;
        String afternoon = "000000000000111111000000";
        String night = "111111000000000000000000";
        for (int day : new int[] {0, 24, 960}) {
            RopesTieThemselves x = atHour(told("tt920;tp920;tb920;ts920;tf920;ti920;"), day);
            for (int hour = 0; hour < 24 && x.count(2) <= 999; hour++) {
                int more = 9 * (afternoon.charAt(hour) - '0');
                int less = night.charAt(hour) - '0';
                int[] want = {20, 20 + more, 20 + more - less, 20 + more - less + (hour % 2 == 1 ? 5 : 0), 10, 49};
                for (int i = 0; i < want.length; i++) {
                    due("heft of kind " + i + " in hour " + x.count(2), x.thing(i, 5), want[i]);
                }
                due("all heft", x.count(5), Arrays.stream(want).sum());
                x.hours(1);
            }
        }
    }

    /** "(0 at least)", "half of a THING's, cut", "WEIGHT and twice STONES", "20 and FIGURE more". */
    private static void heftsLeastAndMost() {
        promise = 4;
        RopesTieThemselves x = told("tb900;ts900;tb001;ts001;tf001;tf003;ti000;ti960;s79;");
        int[] want = {0, 0, 0, 0, 0, 1, 20, 60 + 18 + 20 + 9};
        for (int i = 0; i < want.length; i++) {
            due("heft of " + i, x.thing(i, 5), want[i]);
        }
        x.hours(1);
        due("5 more than the baker's 0", x.thing(1, 5), 5);
        due("5 more than the baker's 1 less 1", x.thing(3, 5), 5);
        atHour(x, 6);
        due("the baker by day", x.thing(2, 5), 1);
        x.stones(5, 9);
        due("feathers with 9 stones", x.thing(5, 5), (3 + 18) / 2);
        x.stones(4, 1);
        due("feathers with a stone, cut", x.thing(4, 5), 1);
        x.turn(0, 0, 9);
        due("a thing's figure is nothing to it", x.thing(0, 5), 0);
        x.weighs(0, 60);
        x.stones(0, 9);
        due("the heaviest thing", x.thing(0, 5), 78);
    }

    /** "HOLDS to that end whose HEFT is greater (neither, if they are alike)". */
    private static void holdsToTheGreater() {
        promise = 5;
        RopesTieThemselves x = told("tt010;tt010;r01;r10;");
        due("alike", x.rope(0, 2), -9);
        x.weighs(0, 11);
        due("1 more", x.rope(0, 2) * 10 + x.rope(1, 2), 0);
        x.weighs(0, 9);
        due("1 less", x.rope(0, 2) * 10 + x.rope(1, 2), 11);
        x.weighs(0, 0);
        x.weighs(1, 0);
        due("alike at 0", x.rope(1, 2), -9);
    }

    /** "1 less (0 at least), that of the other 1 more (20 at most)": each two HEIGHTS. */
    private static void heightsFrom0To20() {
        promise = 12;
        for (int down = 0; down <= 20; down++) {
            RopesTieThemselves x = told("tt011;tt010;r10;");
            for (int up = 0; up <= 20; up++) {
                x.lifts(0, down);
                x.lifts(1, up);
                int lower = down == 0 ? 0 : down - 1;
                int higher = up == 20 ? 20 : up + 1;
                due("all heights of " + down + ", " + up, x.hours(1), lower + higher);
                due("the held one of " + down + ", " + up, x.thing(0, 4), lower);
                due("the other of " + down + ", " + up, x.thing(1, 4), higher);
            }
        }
        RopesTieThemselves alike = told("tt010;tt010;r01;u007;");
        due("neither is held", alike.hours(60), 7);
        due("it stays", alike.thing(0, 4), 7);
        // One at 20 is lifted in vain by the one rope and let down by the next, in this order.
        RopesTieThemselves both = told("tt010;tt020;tt001;r01;r02;u020;");
        both.hours(1);
        due("19 by the order of ropes", both.thing(0, 4), 19);
        RopesTieThemselves turned = told("tt010;tt020;tt001;r02;r01;u020;");
        turned.hours(1);
        due("20 by the other order", turned.thing(0, 4), 20);
    }

    // ---- II.

    private static List<Long> thought(RopesTieThemselves x) {
        List<Long> all = new ArrayList<>();
        for (int n : new int[] {0, 1, 23, 24, 99}) {
            for (int i = 0; i < 3; i++) {
                all.add((long) x.thingThen(i, n, 0));
                all.add((long) x.thingThen(i, n, 1));
                all.add((long) x.ropeThen(i, n));
            }
        }
        for (int i = 0; i < 3; i++) {
            all.add((long) x.up(i, 12));
            all.add((long) x.first(i));
            all.add((long) x.changes(i));
            all.add((long) x.throwsDown(i, 12, 30));
            all.add((long) x.takesUp(i, 3, 30));
            all.add((long) x.bestTie(i, 30));
            all.add((long) x.bestCut(i, 30));
            all.add((long) x.meet(i, (i + 1) % 3));
            all.add((long) x.two(i, (i + 1) % 3, 30));
            all.add(x.wet(i, i, 7, 20, 10, 0));
            all.add((long) x.whatIs(i, 0));
            all.add((long) x.whatIs(i, 1));
        }
        all.add((long) x.bestStone(30));
        all.add((long) x.lots(20, 7, 0));
        all.add((long) x.lots(20, 7, 1));
        return all;
    }

    /** "(In thought HOUR may pass 999.)": at 999 all that is thought is as 40 days ahead of it. */
    private static void thoughtPasses999() {
        promise = 13;
        List<List<Long>> answers = new ArrayList<>();
        for (int hour : new int[] {39, 999}) {
            RopesTieThemselves x = atHour(told("ts910;tp213;tb515;r01;r12;r20;s23;"), hour);
            x.lifts(0, 9);
            x.lifts(1, 6);
            x.lifts(2, 12);
            x.row(9);
            x.row(x.thingThen(0, 1, 0));
            answers.add(thought(x));
            due("hour", x.count(2), hour);
        }
        must("at 999 as at 39: " + answers, answers.get(0).equals(answers.get(1)));
        RopesTieThemselves x = atHour(told("tb010;"), 999);
        due("1007 is the last hour of a day", x.thingThen(0, 8, 1), 10);
        due("1008 is the first of the next", x.thingThen(0, 9, 1), 9);
        due("1013 is the last of the night", x.thingThen(0, 14, 1), 9);
        due("1014 isn't", x.thingThen(0, 15, 1), 10);
        due("the hours themselves don't pass it", x.hours(1), -6);
    }

    /** "n HOURS on (0 .. 99)": 0 is now, and 99 as 99 real ones. */
    private static void hoursOn() {
        promise = 13;
        RopesTieThemselves x = told("ts910;tp213;tb515;r01;r12;r20;u009;u106;u212;");
        for (int n : new int[] {0, 1, 59, 60, 61, 98, 99}) {
            RopesTieThemselves real = told("ts910;tp213;tb515;r01;r12;r20;u009;u106;u212;");
            atHour(real, n);
            for (int i = 0; i < 3; i++) {
                due("height of " + i + ", " + n + " on", x.thingThen(i, n, 0), real.thing(i, 4));
                due("heft of " + i + ", " + n + " on", x.thingThen(i, n, 1), real.thing(i, 5));
                due("rope " + i + ", " + n + " on", x.ropeThen(i, n), real.rope(i, 2));
            }
        }
    }

    /** UP "first v (0 .. 20) high or more"; FIRST "at HEIGHT 20, of several the least"; RESTS "the first n". */
    private static void upFirstRests() {
        for (int height = 0; height <= 20; height++) {
            RopesTieThemselves x = told("tt010;tt020;tt010;r01;r21;u0" + two(height) + ";u2" + two(height) + ";");
            promise = 15;
            for (int v = 0; v <= 20; v++) {
                due("up(0, " + v + ") from " + height, x.up(0, v), Math.max(0, v - height));
            }
            due("up(1, 0)", x.up(1, 0), 0);
            due("up(1, 1)", x.up(1, 1), -9);
            promise = 16;
            due("first(0) from " + height, x.first(0), 0);
            due("first(1) from " + height, x.first(1), 20 - height);
            due("first(2) from " + height, x.first(2), 20 - height);
        }
        promise = 16;
        RopesTieThemselves near = told("tt010;tt010;u019;u120;");
        due("19 is not up, 20 is", near.first(0), 1);
        due("now", near.first(1), 0);
        near.lifts(1, 19);
        due("none", near.first(0), -9);
        due("none", near.first(1), -9);
        due("rests", near.first(2), 0);
        RopesTieThemselves last = told("tt010;".repeat(7) + "tt001;", "r07;u719;");
        due("the last of eight", last.first(0), 7);
        due("in an hour", last.first(1), 1);
        RopesTieThemselves none = new RopesTieThemselves();
        due("no things, first(0)", none.first(0), -9);
        due("no things, first(1)", none.first(1), -9);
        due("no things, first(2)", none.first(2), 0);
        // It comes down as long as it is above 0, though the other is up already.
        due("rests when it is down", told("tt011;tt010;r01;u003;u120;").first(2), 3);
        due("rests when the last of eight is", told("tt010;".repeat(7) + "tt001;", "r07;u719;").first(2), 1);
    }

    /** CHANGES: "behind how many HOURS (1 .. 99)": never 0; hefts go by days, so none is later than 24. */
    private static void changesFrom1() {
        promise = 17;
        due("in each hour", told("ts010;tt012;r01;").changes(0), 1);
        due("never", told("tt010;tt012;r01;").changes(0), -9);
        RopesTieThemselves x = atHour(told("tp310;tt012;r01;"), 18);
        due("from the evening to noon", x.changes(0), 18);
        RopesTieThemselves y = atHour(told("tb010;tt010;r01;"), 6);
        due("from neither to one", y.changes(0), 18);
        y.hours(18);
        due("from one to neither", y.changes(0), 6);
        RopesTieThemselves z = told("tp510;tp512;tt012;r20;r01;");
        due("the one that was the lighter is held", z.changes(0), 12);
        due("two who grow alike", z.changes(1), -9);
    }

    /** THROW: "the fewest STONES": none if none is needed, all that it has, no more. */
    private static void throwsAllItHas() {
        promise = 18;
        for (int stones = 0; stones <= 9; stones++) {
            RopesTieThemselves x = told("tt010;tt000;r01;u005;s0" + stones + ";");
            for (int weight = 8; weight <= 31; weight++) {
                x.weighs(1, weight);
                int up = -9;
                int stays = -9;
                for (int kept = 0; kept <= stones; kept++) {
                    up = 10 + 2 * kept < weight ? stones - kept : up;
                    stays = 10 + 2 * kept <= weight ? stones - kept : stays;
                }
                due("throwsDown(0, 6, 1) with " + stones + ", " + weight, x.throwsDown(0, 6, 1), up);
                due("throwsDown(0, 5, 1) with " + stones + ", " + weight, x.throwsDown(0, 5, 1), stays);
                due("throwsDown(0, 4, 1) with " + stones + ", " + weight, x.throwsDown(0, 4, 1), 0);
            }
        }
        RopesTieThemselves x = told("tt010;tt011;r01;s09;u005;");
        due("now, as high", x.throwsDown(0, 5, 0), 0);
        due("now, higher", x.throwsDown(0, 6, 0), -9);
        due("15 hours to be up", x.throwsDown(0, 20, 15), 9);
        due("14 are too few", x.throwsDown(0, 20, 14), -9);
        // Without the stone it has 10 against the person's 12 in the hours 36 .. 41, and is 6 high in the last.
        RopesTieThemselves late = atHour(told("tt010;tp309;r01;s01;"), 11);
        due("30 hours on", late.throwsDown(0, 6, 30), 1);
        due("29 hours on", late.throwsDown(0, 6, 29), -9);
    }

    /** TAKE: "the fewest STONES (9 in all at most)". */
    private static void takesNineInAll() {
        promise = 19;
        for (int stones = 0; stones <= 9; stones++) {
            RopesTieThemselves x = told("tt010;tt000;r01;u005;s0" + stones + ";");
            for (int weight = 8; weight <= 31; weight++) {
                x.weighs(1, weight);
                int down = -9;
                int stays = -9;
                for (int had = 9; had >= stones; had--) {
                    down = 10 + 2 * had > weight ? had - stones : down;
                    stays = 10 + 2 * had >= weight ? had - stones : stays;
                }
                due("takesUp(0, 4, 1) with " + stones + ", " + weight, x.takesUp(0, 4, 1), down);
                due("takesUp(0, 5, 1) with " + stones + ", " + weight, x.takesUp(0, 5, 1), stays);
                due("takesUp(0, 6, 1) with " + stones + ", " + weight, x.takesUp(0, 6, 1), 0);
            }
        }
        RopesTieThemselves x = told("tt010;tt011;r01;u005;");
        due("now, as low", x.takesUp(0, 5, 0), 0);
        due("now, lower", x.takesUp(0, 4, 0), -9);
        due("5 hours to be down", x.takesUp(0, 0, 5), 1);
        due("4 are too few", x.takesUp(0, 0, 4), -9);
        due("20 is all", x.takesUp(0, 20, 30), 0);
    }

    /** TIE: "highest .., higher than without, of several the least; -9 (6 there are, too)". */
    private static void tiesForHeight() {
        promise = 20;
        due("to nobody", things(1).bestTie(0, 30), -9);
        RopesTieThemselves x = told("tt010;tt010;");
        due("to one alike", x.bestTie(0, 30), -9);
        x.weighs(1, 11);
        due("to a heavier one", x.bestTie(0, 1), 1);
        due("by no hour", x.bestTie(0, 0), -9);
        x.weighs(1, 9);
        due("to a lighter one", x.bestTie(0, 30), -9);
        x.lifts(0, 19);
        x.weighs(1, 11);
        due("from 19", x.bestTie(0, 30), 1);
        x.lifts(0, 20);
        due("from 20", x.bestTie(0, 30), -9);
        // The smuggler is the heavier in odd hours alone, the last two in all.
        RopesTieThemselves y = told("tt010;ts007;tt011;tt060;");
        due("the highest, of several the least", y.bestTie(0, 3), 2);
        due("the last one", told("tt010;".repeat(7) + "tt011;").bestTie(6, 1), 7);
        due("the first one", told("tt011;" + "tt010;".repeat(7)).bestTie(7, 1), 0);
        RopesTieThemselves full = told("tt010;tt011;tt001;tt002;");
        for (int ropes = 0; ropes <= 6; ropes++) {
            due("with " + ropes + " ropes", full.bestTie(0, 5), ropes < 6 ? 1 : -9);
            full.ties(2, 3);
        }
    }

    /** CUT: "highest .., higher than with, of several the least; -9". */
    private static void cutsForHeight() {
        promise = 21;
        due("no ropes", told("tt010;tt001;u005;").bestCut(0, 30), -9);
        RopesTieThemselves x = told("tt010;tt001;r01;u005;");
        due("the only one", x.bestCut(0, 1), 0);
        due("by no hour", x.bestCut(0, 0), -9);
        due("of the other's good", x.bestCut(1, 30), -9);
        x.lifts(0, 0);
        due("it is down already", x.bestCut(0, 30), -9);
        x.lifts(0, 5);
        x.weighs(1, 10);
        due("it pulls nobody", x.bestCut(0, 30), -9);
        RopesTieThemselves six = told("tt010;tt001;tt020;r21;r21;r21;r21;r21;r01;u005;");
        due("the last of six", six.bestCut(0, 1), 5);
        RopesTieThemselves several = told("tt010;tt001;tt020;r21;r01;r10;u005;");
        due("of several the least", several.bestCut(0, 1), 1);
        // The smuggler is the heavier in odd hours alone, so the rope to the thing of 1 is the worse.
        RopesTieThemselves most = told("tt010;ts007;tt001;r01;r02;u009;");
        due("the highest", most.bestCut(0, 2), 1);
    }

    /** STONE: "having a STONE more now (9 at most), .. more than else, of several the least; -9". */
    private static void aStoneMore() {
        promise = 22;
        due("nobody", new RopesTieThemselves().bestStone(30), -9);
        due("one without a rope", things(1).bestStone(30), -9);
        for (int stones = 0; stones <= 9; stones++) {
            RopesTieThemselves x = told("tt010;tt010;r01;s0" + stones + ";s1" + stones + ";");
            due("with " + stones + " each", x.bestStone(1), stones < 9 ? 0 : -9);
            due("by no hour", x.bestStone(0), -9);
            x.stones(0, 9);
            x.weighs(0, 10 - 2 * (9 - stones) < 0 ? 0 : 10 - 2 * (9 - stones));
            x.weighs(1, x.thing(0, 2) + 18 - 2 * stones);
            due("9 and " + stones, x.bestStone(1), stones < 9 ? 1 : -9);
        }
        RopesTieThemselves most = told("tt010;tt010;tt010;tt010;tt010;r01;r23;r24;");
        due("the most, of several the least", most.bestStone(1), 2);
        RopesTieThemselves less = told("tt010;tt011;r01;u119;u005;");
        due("what makes it less is no good", less.bestStone(1), -9);
    }

    /** ROWS: "the i-th THING .., of several the least; -9". */
    private static void rowsToTheLast() {
        promise = 23;
        for (int n = 0; n <= 8; n++) {
            RopesTieThemselves x = things(n);
            for (int i = 0; i <= 9; i++) {
                due("rows(" + i + ") of " + n + " alike", x.rows(i), i < n ? i : -9);
            }
        }
        RopesTieThemselves x = told("tt001;tt002;tt003;tt004;tt005;tt006;tt007;tt008;");
        for (int i = 0; i < 8; i++) {
            due("rows(" + i + ")", x.rows(i), 7 - i);
        }
    }

    /** BETWEEN: "(neither's own)". */
    private static void betweenNeithersOwn() {
        promise = 24;
        RopesTieThemselves x = told("tt010;tt013;tt010;tt013;tt011;tt012;tt009;tt014;");
        due("11 and 12 are between 10 and 13", x.between(0, 1), 2);
        due("the other way about", x.between(3, 2), 2);
        due("10 and 11", x.between(0, 4), 0);
        due("10 and 10", x.between(0, 2), 0);
        due("9 and 14", x.between(6, 7), 6);
        due("of two alone", told("tt010;tt020;").between(0, 1), 0);
    }

    /** BALANCE: "the fewest .. of several the least; not the told one; none, if it has HEFT 0 .. -9". */
    private static void balances() {
        promise = 25;
        due("one alone", things(1).balance(0), -9);
        due("one alone of heft 0", told("tt000;").balance(0), 0);
        due("0 and 0: none is fewest", told("tt000;tt000;").balance(0), 0);
        due("10 and 9", told("tt010;tt009;").balance(0), -9);
        due("10 and 11", told("tt010;tt011;").balance(0), -9);
        due("alike", told("tt010;tt010;tt010;").balance(1), 1);
        due("one ahead of two", told("tt010;tt004;tt006;tt010;").balance(0), 8);
        due("a thing of 0 more is not the fewest", told("tt000;tt010;tt010;").balance(1), 4);
        due("of several the least by bits", told("tt010;tt005;tt006;tt004;tt005;").balance(0), 4 | 8);
        due("all of the others", told("tt028;tt001;tt002;tt003;tt004;tt005;tt006;tt007;").balance(0), 254);
        due("all of the others, 1 less", told("tt027;tt001;tt002;tt003;tt004;tt005;tt006;tt007;").balance(0), 252);
        due("all of the others, 1 more", told("tt029;tt001;tt002;tt003;tt004;tt005;tt006;tt007;").balance(0), -9);
        due("the last told", told("tt001;tt002;tt003;tt004;tt005;tt006;tt007;tt028;").balance(7), 127);
    }

    /** NEAREST: "of several the least; -9". */
    private static void nearestOfNone() {
        promise = 26;
        due("nobody else", things(1).nearest(0), -9);
        due("one that is far", told("tt000;ti960;s19;").nearest(0), 1);
        due("alike", told("tt010;tt009;tt010;").nearest(0), 2);
        due("as near below and above", told("tt010;tt012;tt008;").nearest(0), 1);
        due("as near above and below", told("tt010;tt008;tt012;").nearest(0), 1);
        due("of the last", told("tt009;tt011;tt010;").nearest(2), 0);
        due("all eight alike, the first", things(8).nearest(0), 1);
        due("all eight alike, the last", things(8).nearest(7), 0);
    }

    /** CHAIN "(bits, it too)", CHAINS, RING "(two ROPES between the same two do)". */
    private static void chainsAndRings() {
        promise = 27;
        due("alone", things(8).chain(7), 128);
        RopesTieThemselves x = told("tt010;".repeat(8));
        promise = 28;
        due("eight alone", x.chains(0) * 100 + x.chains(1) * 10 + x.chains(2), 810);
        x.ties(0, 1);
        due("a two", x.chains(0) * 100 + x.chains(1) * 10 + x.chains(2), 720);
        x.ties(1, 0);
        due("two ropes between them", x.chains(0) * 100 + x.chains(1) * 10 + x.chains(2), 721);
        x.cuts(0);
        x.ties(2, 3);
        due("two twos", x.chains(0) * 100 + x.chains(1) * 10 + x.chains(2), 620);
        x.ties(1, 2);
        due("a row of four", x.chains(0) * 100 + x.chains(1) * 10 + x.chains(2), 540);
        x.ties(3, 0);
        due("a ring of four", x.chains(0) * 100 + x.chains(1) * 10 + x.chains(2), 541);
        promise = 27;
        due("the ring", x.chain(2), 15);
        due("not in it", x.chain(4), 16);
        promise = 28;
        RopesTieThemselves seven = told("tt010;".repeat(8), "r01;r12;r23;r34;r45;r56;");
        due("seven by six ropes", seven.chains(0) * 100 + seven.chains(1) * 10 + seven.chains(2), 270);
        RopesTieThemselves six = told("tt010;".repeat(6), "r01;r12;r23;r34;r45;r50;");
        due("a ring of six", six.chains(0) * 100 + six.chains(1) * 10 + six.chains(2), 161);
        due("a ring of three", told("tt010;tt010;tt010;r01;r12;r20;").chains(2), 1);
        due("a star", told("tt010;tt010;tt010;tt010;r01;r02;r03;").chains(2), 0);
    }

    /** SIDES: "(THING 0 on the first) .. as near as can be .. of several the least .. -9 nobody". */
    private static void sidesOfFew() {
        promise = 29;
        due("one, which is on the first", told("tt060;").sides(0), 1);
        due("one, apart from nobody", told("tt060;").sides(1), 60);
        due("two alike", things(2).sides(0), 1);
        due("two alike", things(2).sides(1), 0);
        due("one of 0 more is on no side's account, the least", told("tt005;tt000;tt005;").sides(0), 1);
        due("1 apart", told("tt003;tt002;tt002;").sides(1), 1);
        due("on the first side with another", told("tt001;tt009;tt008;").sides(0), 5);
        due("all but one", told("tt001;tt001;tt001;tt001;tt001;tt001;tt001;tt007;").sides(0), 127);
        due("eight alike", things(8).sides(0), 15);
        // As near with 2 as with 4 on the first side.
        due("of several the least", told("tt003;tt002;tt002;").sides(0), 1);
        due("by 3 above as by 3 below", told("tt004;tt003;tt006;").sides(0), 3);
    }

    /** HAULED "(1, 0)", TOP "(itself, if there is none), of several the least". */
    private static void hauledAndTop() {
        promise = 30;
        RopesTieThemselves x = told("tt010;tt011;tt012;tt012;r01;r12;r13;r23;");
        due("by one", x.hauled(0, 1), 1);
        due("by two", x.hauled(0, 2), 1);
        due("not back", x.hauled(1, 0), 0);
        due("alike", x.hauled(2, 3), 0);
        due("alike", x.hauled(3, 2), 0);
        promise = 31;
        due("of 2 and 3 the least", x.top(0), 2);
        due("itself", x.top(3), 3);
        due("without ropes", things(1).top(0), 0);
        due("thing 0, of it and one alike", told("tt012;tt010;tt012;r21;r10;").top(1), 0);
        due("thing 0, the greatest of all", told("tt013;tt010;tt012;r12;r20;").top(1), 0);
        x.weighs(3, 13);
        due("the greatest", x.top(0), 3);
        due("the last", x.top(2), 3);
        RopesTieThemselves far = told("tt001;tt002;tt003;tt004;tt005;tt006;tt007;tt060;", "r56;r45;r34;r23;r12;r01;");
        due("six ropes on, and not whom no rope holds", far.top(0), 6);
        promise = 30;
        due("six ropes on", far.hauled(0, 6), 1);
        due("five ropes on", far.hauled(1, 6), 1);
        due("by no rope", far.hauled(0, 7), 0);
    }

    /** ODD: "ROPES (bits) that HOLD to neither". */
    private static void oddRopes() {
        promise = 32;
        RopesTieThemselves x = things(2);
        for (int i = 0; i < 6; i++) {
            x.ties(0, 1);
            due("ropes 0 .. " + i, x.odd(), (2 << i) - 1);
        }
        x.weighs(0, 11);
        due("none of six", x.odd(), 0);
        due("no ropes", things(8).odd(), 0);
    }

    /** MEET: "behind how many HOURS (0 .. 99) two are first at one HEIGHT; -9". */
    private static void meetFrom0() {
        promise = 33;
        for (int apart = 0; apart <= 20; apart++) {
            RopesTieThemselves x = told("tt010;tt011;tt010;r01;u1" + two(apart) + ";u2" + two(apart) + ";");
            due("they meet, " + apart, x.meet(0, 1), apart % 2 == 0 ? apart / 2 : -9);
            due("one waits, " + apart, x.meet(0, 2), apart);
        }
        due("never", told("tt010;tt010;u101;").meet(0, 1), -9);
    }

    /** TWO: "STONES 2 more, 9 at most"; eating lifts nobody who eats, so 0 is the answer by the document's words. */
    private static void twoAtNine() {
        promise = 34;
        for (int stones = 0; stones <= 9; stones++) {
            RopesTieThemselves x = told("tt010;tt010;r01;u005;u105;s0" + stones + ";s1" + stones + ";");
            for (int n : new int[] {0, 1, 29, 30}) {
                due("two(0, 1, " + n + ") with " + stones, x.two(0, 1, n), 0);
                due("two(1, 0, " + n + ") with " + stones, x.two(1, 0, n), 0);
            }
            due("stones", x.count(4), 2 * stones);
        }
    }

    /** WET: "n HOURS (0 .. 7)", "1 in t (2 .. 20)", "v (0 .. 20) high or more"; "0 as 0 by 1". */
    private static void wetLimits() {
        promise = 35;
        RopesTieThemselves x = told("tt010;tt011;r01;u010;u110;");
        long[] powers = {1, 20, 400, 8000, 160000, 3200000, 64000000, 1280000000};
        long[] dry = {1, 19, 361, 6859, 130321, 2476099, 47045881, 893871739};
        for (int n = 0; n <= 7; n++) {
            due("all dry, above, " + n, x.wet(0, 0, n, 20, 10 + n, 0), dry[n]);
            due("all dry, below, " + n, x.wet(0, 0, n, 20, 10 + n, 1), powers[n]);
            due("higher than that, above, " + n, x.wet(0, 0, n, 20, 11 + n, 0), 0);
            due("higher than that, below, " + n, x.wet(0, 0, n, 20, 11 + n, 1), 1);
            due("as low as all wet, above, " + n, x.wet(0, 0, n, 20, 10 - n, 0), 1);
            due("as low as all wet, below, " + n, x.wet(0, 0, n, 20, 10 - n, 1), 1);
            due("not all wet, above, " + n, x.wet(0, 0, n, 2, Math.min(10, 11 - n), 0), n == 0 ? 1 : (1 << n) - 1);
            due("not all wet, below, " + n, x.wet(0, 0, n, 2, Math.min(10, 11 - n), 1), 1 << n);
        }
        due("v 0", x.wet(0, 0, 7, 2, 0, 0), 1);
        x.lifts(0, 20);
        due("v 20 now", x.wet(0, 0, 0, 2, 20, 0), 1);
        due("v 20, the last hour dry, above", x.wet(0, 0, 1, 3, 20, 0), 2);
        due("v 20, the last hour dry, below", x.wet(0, 0, 1, 3, 20, 1), 3);
        x.lifts(1, 0);
        x.lifts(0, 0);
        // Down at 0 it can't go lower: 1 high behind two hours if the last is dry.
        due("0 at least, above", x.wet(0, 0, 2, 3, 1, 0) * 10 + x.wet(0, 0, 2, 3, 1, 1), 23);
        x.weighs(1, 10);
        due("alike it holds to neither, wet or not", x.wet(0, 0, 7, 2, 1, 0), 0);
        x.weighs(1, 9);
        due("the wet rope lifts the heavier, above", x.wet(0, 0, 1, 20, 1, 0) * 100 + x.wet(0, 0, 1, 20, 1, 1), 120);
    }

    /** MEAN: "(0 by 1 of nothing)", "Fractions are told in least terms; 0 as 0 by 1". */
    private static void meansInLeastTerms() {
        promise = 36;
        for (int n = 0; n <= 8; n++) {
            RopesTieThemselves x = things(n);
            due("0 above, of " + n, x.mean(0), 0);
            due("0 below, of " + n, x.mean(1), 1);
            for (int i = 0; i < n; i++) {
                x.lifts(i, 20);
            }
            due("20 above, of " + n, x.mean(0), n == 0 ? 0 : 20);
            due("20 below, of " + n, x.mean(1), 1);
        }
        RopesTieThemselves x = things(8);
        x.lifts(7, 1);
        due("1 by 8", x.mean(0) * 10 + x.mean(1), 18);
        x.lifts(7, 2);
        due("1 by 4", x.mean(0) * 10 + x.mean(1), 14);
        x.lifts(7, 12);
        due("3 by 2", x.mean(0) * 10 + x.mean(1), 32);
    }

    /** WHAT IT IS: "behind 0, 1, .. HOURS", "how many (0 .. 60) do". */
    private static void whatItIsAtTheEnds() {
        promise = 37;
        due("no row, kinds", things(1).whatIs(0, 0), 63);
        due("no row, weights", things(1).whatIs(0, 1), 61);
        RopesTieThemselves x = told("tt010;tt001;r01;u010;u110;");
        x.row(10);
        due("now, weights", x.whatIs(0, 1), 61);
        x.row(11);
        due("lighter than 1: 0 alone", x.whatIs(0, 1), 1);
        x.weighs(1, 0);
        due("lighter than 0: none", x.whatIs(0, 1), 0);
        x.weighs(1, 60);
        due("lighter than 60: 0 .. 59", x.whatIs(0, 1), 60);
        x.stones(1, 1);
        due("lighter than 62: all", x.whatIs(0, 1), 61);
        x.clear();
        x.row(10);
        x.row(9);
        due("heavier than 62: none", x.whatIs(0, 1), 0);
        x.stones(1, 0);
        due("heavier than 60: none", x.whatIs(0, 1), 0);
        x.weighs(1, 59);
        due("heavier than 59: 60 alone", x.whatIs(0, 1), 1);
        x.clear();
        for (int i = 0; i < 16; i++) {
            x.row(10);
        }
        due("as heavy for 15 hours", x.whatIs(0, 1), 1);
        due("a kind that is so: none", x.whatIs(0, 0), 0);
        x.weighs(0, 59);
        due("a thing, a person by day's figure 0, no baker", x.whatIs(0, 0), 1 | 2);
        x.turn(0, 0, 1);
        due("no person of figure 1 at noon", x.whatIs(0, 0), 1);
        due("the row stays", x.clear(), 16);
        for (int i = 0; i < 12; i++) {
            x.row(10);
        }
        due("but before noon", x.whatIs(0, 0), 1 | 2);
        x.row(10);
        due("the 13th number is noon's", x.whatIs(0, 0), 1);
        x.clear();
        x.row(11);
        due("a height that it has not now", x.whatIs(0, 0), 0);
        x.clear();
        x.row(99);
        due("no height at all", x.whatIs(0, 1), 0);
    }

    private static int judged(RopesTieThemselves x, int... row) {
        for (int v : row) {
            x.row(v);
        }
        int answer = x.judge();
        due("the row has none then", x.count(6), 0);
        return answer;
    }

    /** JUDGED: "the first place that can not be (..); where an unwhole two begins; -9". */
    private static void judgedPlaces() {
        promise = 39;
        Function<Integer, RopesTieThemselves> some = n -> told("tt001;tt002;tt003;tt003;".substring(0, 6 * n));
        for (int n = 1; n <= 4; n++) {
            for (int a = 0; a <= 5; a++) {
                for (int b = 0; b <= 5; b++) {
                    boolean so = a < b && !(a == 2 && b == 3);
                    int want = a >= n ? 0 : b >= n || !so ? 1 : -9;
                    due(a + " " + b + " of " + n, judged(some.apply(n), a, b), want);
                    int behind = want == -9 ? -9 : want + 2;
                    if (n > 1) {
                        due("0 1 " + a + " " + b + " of " + n, judged(some.apply(n), 0, 1, a, b), behind);
                        due("an unwhole two behind " + a + " " + b, judged(some.apply(n), a, b, 0), want == -9 ? 2 : want);
                    }
                }
            }
        }
        RopesTieThemselves none = new RopesTieThemselves();
        due("no things, no row", judged(none), -9);
        due("no things, an unwhole two", judged(none, 0), 0);
        due("no things", judged(none, 0, 1), 0);
        RopesTieThemselves x = some.apply(4);
        due("an unwhole two of no such thing", judged(x, 99), 0);
        int[] full = {0, 1, 0, 1, 0, 1, 0, 1, 0, 1, 0, 1, 0, 1, 0, 1};
        due("sixteen that are so", judged(x, full), -9);
        full[14] = 4;
        due("the 15th", judged(x, full), 14);
        full[14] = 1;
        due("the 16th", judged(x, full), 15);
        due("fifteen", judged(x, Arrays.copyOf(new int[] {0, 1, 0, 1, 0, 1, 0, 1, 0, 1, 0, 1, 0, 1, 0}, 15)), 14);
        due("no refusal of it", refusals(x).stream().mapToInt(Integer::intValue).sum(), 0);
    }

    /** LOTS: "n ports (1 .. 20): STONES of each, by numbers, a DRAW below 10, then 10 HOURS". */
    private static void lotsAndDraws() {
        promise = 41;
        due("nobody", new RopesTieThemselves().lots(20, 5, 0), 0);
        due("nobody's ropes", new RopesTieThemselves().lots(20, 5, 1), 0);
        // Of the seed 0 the draws are 3, 2, 2, 9, 0 ..: see drawsByHand.
        int[] draws = drawsByHand(0, 40);
        RopesTieThemselves x = told("tt010;tt010;r01;u005;");
        int heights = 0;
        int alike = 0;
        for (int n = 1; n <= 20; n++) {
            int one = draws[2 * n - 2];
            int other = draws[2 * n - 1];
            heights += one < other ? 15 : one > other ? 10 : 5;
            alike += one == other ? 1 : 0;
            due("lots(" + n + ", 0, 0)", x.lots(n, 0, 0), heights);
            due("lots(" + n + ", 0, 1)", x.lots(n, 0, 1), alike);
        }
        due("stones stay", x.count(4), 0);
        due("hour stays", x.count(2), 0);
        // What it has now is nothing to it: each port's stones are drawn.
        x.stones(0, 9);
        due("with 9 stones now", x.lots(20, 0, 0), heights);
        for (int seed : new int[] {Integer.MIN_VALUE, -1, 1, Integer.MAX_VALUE, 7}) {
            int[] two = drawsByHand(seed, 2);
            int want = two[0] < two[1] ? 15 : two[0] > two[1] ? 10 : 5;
            due("lots(1, " + seed + ", 0)", x.lots(1, seed, 0), want);
        }
    }

    private static int[] drawsByHand(int seed, int n) {
        int[] draws = new int[n];
        long z = seed;
        for (int i = 0; i < n; i++) {
            z = (z * 1664525L + 1013904223L) & 0xffffffffL;
            draws[i] = (int) (z % (1L << 31) / 256 % 10);
        }
        return draws;
    }

    /** THE IMAGE: "all that there is, but it, the ROW, letters, REFUSALS; ON from it all is as then". */
    private static void theImage() {
        promise = 43;
        RopesTieThemselves x = new RopesTieThemselves();
        due("none", x.on(), -3);
        promise = 42;
        due("of nothing", x.image(), 0);
        promise = 43;
        port(x, "tt010;".repeat(8) + "r01;r12;r23;r34;r45;r56;h05;");
        x.row(3);
        letters(x, "tt0");
        x.thing(8, 0);
        x.thing(0, 6);
        x.up(0, -1);
        x.up(0, 21);
        due("back to nothing", x.on(), 0);
        due("no things", x.count(0), 0);
        due("no ropes", x.count(1), 0);
        due("the row stays", x.count(6), 1);
        due("letters stay", x.count(7), 3);
        must("refusals stay", refusals(x).equals(List.of(1, 1, 1, 1, 0, 1)));
        due("the letters are those", port(x, "07;"), 1);
        due("the weight of it", x.thing(0, 2), 7);
        atHour(x, 999);
        promise = 42;
        due("at 999", x.image(), 999);
        promise = 43;
        x.turn(0, 5, 9);
        x.stones(0, 9);
        x.lifts(0, 20);
        x.weighs(0, 60);
        due("on()", x.on(), 999);
        due("kind", x.thing(0, 0), 0);
        due("figure", x.thing(0, 1), 0);
        due("weight", x.thing(0, 2), 7);
        due("stones", x.thing(0, 3), 0);
        due("height", x.thing(0, 4), 0);
        x.lifts(0, 4);
        due("on() a second time", x.on(), 999);
        due("height", x.thing(0, 4), 0);
        must("refusals stay", refusals(x).equals(List.of(1, 1, 1, 1, 0, 1)));
        RopesTieThemselves y = told("tt010;tt011;r01;u003;");
        y.image();
        y.lifts(0, 8);
        y.image();
        y.lifts(0, 9);
        y.on();
        due("the later image", y.thing(0, 4), 8);
        y.cuts(0);
        y.ties(1, 0);
        y.on();
        due("the rope's ends", y.rope(0, 0) * 10 + y.rope(0, 1), 1);
        due("image() changes nothing", y.count(3), 8);
    }

    /** count: "11 .. 16 REFUSALS -1 .. -6. -9 for another what", which is no refusal. */
    private static void counts() {
        promise = 44;
        RopesTieThemselves x = new RopesTieThemselves();
        for (int what = -3; what <= 20; what++) {
            boolean is = what >= 0 && what <= 7 || what >= 11 && what <= 16;
            due("count(" + what + ") of a new one", x.count(what), is ? 0 : -9);
        }
        for (int times = 1; times <= 3; times++) {
            x.chain(0);
            x.first(9);
            x.on();
            x.rows(-1);
            x.row(100);
            must("refusals of each kind, " + times, refusals(x).equals(List.of(times, times, times, times, 0, times)));
        }
        x.mean(7);
        x.wet(0, 0, 0, 2, 0, 0);
        must("of longs, too", refusals(x).equals(List.of(4, 4, 3, 3, 0, 3)));
        RopesTieThemselves full = told("ti960;".repeat(8));
        for (int i = 0; i < 8; i++) {
            full.stones(i, 9);
            full.lifts(i, 20);
        }
        due("all heights", full.count(3), 160);
        due("all stones", full.count(4), 72);
        due("all heft", full.count(5), 8 * 107);
    }

    /** "An object is used for at most 512 calls": the 512th is answered as the first is. */
    private static void theLastCalls() {
        promise = 44;
        RopesTieThemselves refused = new RopesTieThemselves();
        for (int call = 1; call <= 511; call++) {
            due("call " + call, refused.rope(0, 0), -1);
        }
        due("the 512th, all the refusals", refused.count(11), 511);
        promise = 43;
        RopesTieThemselves turned = new RopesTieThemselves();
        for (int call = 1; call <= 508; call += 4) {
            due("call " + call, turned.image(), 0);
            due("call " + (call + 1), turned.hours(60), 0);
            due("call " + (call + 2), turned.on(), 0);
            due("call " + (call + 3), turned.lots(20, call, 0), 0);
        }
        promise = 12;
        due("the 509th", turned.hours(1), 0);
        due("the 510th", turned.hours(60), 0);
        due("the 511th", turned.hours(60), 0);
        due("the 512th, the hour", turned.count(2), 121);
    }
}
