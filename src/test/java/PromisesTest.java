import java.util.ArrayList;
import java.util.Arrays;
import java.util.List;
import java.util.function.LongSupplier;

/** Each promise with answers reckoned by hand: ordinary ones, the edges, each refusal in its order. */
public final class PromisesTest extends Checks {
    private static final long LONG_NO = 4000000000000000000L;

    /** The call answers the refusal, and it is counted; RefusalsTest looks whether all else stays. */
    private static void refused(RopesTieThemselves x, String call, LongSupplier made, int code) {
        refused(x, call, made, code, code);
    }

    private static void refused(RopesTieThemselves x, String call, LongSupplier made, int code, long answer) {
        int before = x.count(10 - code);
        due(call, made.getAsLong(), answer);
        due("refusals behind " + call, x.count(10 - code), before + 1);
    }

    private static void refusedLong(RopesTieThemselves x, String call, LongSupplier made, int code) {
        refused(x, call, made, code, LONG_NO - code);
    }

    public static void main(String[] args) {
        aNewObject();
        letter();
        portGrammar();
        portMeaning();
        thing();
        kinds();
        rope();
        ties();
        cuts();
        stonesWeighsLifts();
        turn();
        hours();
        thingThen();
        ropeThen();
        up();
        first();
        changes();
        ninetyNine();
        throwsDown();
        takesUp();
        bestTie();
        bestCut();
        bestStone();
        rows();
        between();
        balance();
        nearest();
        chain();
        chains();
        sides();
        hauled();
        top();
        odd();
        meet();
        two();
        wet();
        mean();
        whatIs();
        row();
        judge();
        clear();
        lots();
        imageAndOn();
        count();
        end("all promises are kept");
    }

    private static void aNewObject() {
        promise = 1;
        RopesTieThemselves x = new RopesTieThemselves();
        for (int what = 0; what <= 7; what++) {
            due("count(" + what + ")", x.count(what), 0);
        }
        for (int what = 11; what <= 16; what++) {
            due("count(" + what + ")", x.count(what), 0);
        }
        RopesTieThemselves y = told("tt005;");
        due("another one's things", x.count(0), 0);
        due("its own", y.count(0), 1);
    }

    private static void letter() {
        promise = 2;
        RopesTieThemselves x = new RopesTieThemselves();
        due("letter(0)", x.letter(0), 1);
        due("letter(255)", x.letter(255), 2);
        refused(x, "letter(-1)", () -> x.letter(-1), -4);
        refused(x, "letter(256)", () -> x.letter(256), -6);
        refused(x, "letter(least)", () -> x.letter(Integer.MIN_VALUE), -4);
        refused(x, "letter(most)", () -> x.letter(Integer.MAX_VALUE), -6);
        for (int i = 3; i <= 96; i++) {
            due("letter " + i, x.letter('t'), i);
        }
        refused(x, "the 97th", () -> x.letter('t'), -6);
        refused(x, "the 97th, below", () -> x.letter(-1), -4);
        due("count(7)", x.count(7), 96);
    }

    private static void portFault(String text, int want) {
        RopesTieThemselves x = told("tt011;tp222;r01;");
        x.lifts(0, 7);
        List<Long> before = seen(x);
        List<Integer> counted = refusals(x);
        due("port of '" + text + "'", port(x, text), want);
        due("nothing came of '" + text + "'", seen(x).equals(before) ? 1 : 0, 1);
        due("nothing is counted of '" + text + "'", refusals(x).equals(counted) ? 1 : 0, 1);
    }

    private static void portGrammar() {
        promise = 3;
        portFault("", -1000);
        portFault("x", -1000);
        portFault(";", -1000);
        portFault("t", -1001);
        portFault("T", -1000);
        portFault("tx", -1001);
        portFault("tt", -1002);
        portFault("ttt", -1002);
        portFault("tt0", -1003);
        portFault("tt00", -1004);
        portFault("tt000", -1005);
        portFault("tt0000;", -1005);
        portFault("tt00/;", -1004);
        portFault("tt00:;", -1004);
        portFault("r01", -1003);
        portFault("r0;", -1002);
        portFault("c;", -1001);
        portFault("c00;", -1002);
        portFault("s0;", -1002);
        portFault("s000;", -1003);
        portFault("u00;", -1003);
        portFault("u0000;", -1004);
        portFault("h1;", -1002);
        portFault("h001;", -1003);
        portFault("tt001;;", -1006);
        portFault("tt001; ", -1006);
        portFault("tt001;r", -1007);
        // A fault of the letters is told ahead of one of the meaning, wherever it stands.
        portFault("tt099;tt001;c", -1013);
        portFault("h00;x", -1004);
    }

    private static void portMeaning() {
        promise = 3;
        portFault("tt061;", -2000);
        portFault("tt099;", -2000);
        portFault("tt060;tt061;", -2006);
        portFault("r00;", -2000);
        portFault("r02;", -2000);
        portFault("r20;", -2000);
        portFault("r02;tt000;", -2000);
        portFault("tt000;r02;r33;", -2010);
        portFault("c1;", -2000);
        portFault("c0;c0;", -2003);
        portFault("s20;", -2000);
        portFault("s90;", -2000);
        portFault("u200;", -2000);
        portFault("u021;", -2000);
        portFault("u020;u121;", -2005);
        portFault("h00;", -2000);
        portFault("h61;", -2000);
        portFault("tt000;tt000;tt000;tt000;tt000;tt000;tt000;", -2036);
        portFault("r01;r01;r01;r01;r01;r01;", -2020);
        portFault("h60;h60;h60;h60;h60;h60;h60;h60;h60;h60;h60;h60;h60;h60;h60;h60;h40;", -2064);

        RopesTieThemselves x = told("tt011;tp222;r01;s03;u115;h01;");
        due("letters", x.count(7), 0);
        due("things", x.count(0), 2);
        due("ropes", x.count(1), 1);
        due("hour", x.count(2), 1);
        due("kind", x.thing(1, 0), 1);
        due("figure", x.thing(1, 1), 2);
        due("weight", x.thing(1, 2), 22);
        due("stones", x.thing(0, 3), 3);
        // 22 against 11 + 6: 1 comes down, 0 goes up.
        due("height of 0", x.thing(0, 4), 1);
        due("height of 1", x.thing(1, 4), 14);
        due("a port more", port(x, "tt005;r21;c0;"), 3);
        due("things", x.count(0), 3);
        due("ropes", x.count(1), 1);
        due("rope 0 was rope 1", x.rope(0, 0) * 10 + x.rope(0, 1), 21);
        due("height stays", x.thing(1, 4), 14);
        due("to 999", port(x, "h60;h60;h60;h60;h60;h60;h60;h60;h60;h60;h60;h60;h60;h60;h60;h60;h38;"), 17);
        due("hour", x.count(2), 999);
        due("above 999", port(x, "h01;"), -2000);
        due("letters are no more", x.count(7), 0);
        due("port without letters", x.port(), -1000);
        RopesTieThemselves y = told("tt000;tt000;tt000;tt000;tt000;tt000;tt000;tt000;r07;r07;r07;r07;r07;r07;");
        due("things", y.count(0), 8);
        due("ropes", y.count(1), 6);
        due("a cut makes room", port(y, "c0;r12;"), 2);
        RopesTieThemselves none = new RopesTieThemselves();
        none.image();
        port(none, "tt001;s09;u020;");
        none.on();
        due("a new thing where one was", port(none, "tt002;"), 1);
        due("it has no stones", none.thing(0, 3), 0);
        due("it has no height", none.thing(0, 4), 0);
        due("no room for a rope", port(y, "r12;"), -2000);
        due("no room for a thing", port(y, "tt000;"), -2000);
        due("thing 9 is none", port(y, "s95;"), -2000);
    }

    private static void thing() {
        promise = 4;
        RopesTieThemselves x = told("tt120;tp218;tb320;ts416;tf540;ti601;s12;u405;");
        for (int i = 0; i < 6; i++) {
            due("thing(" + i + ", 0)", x.thing(i, 0), i);
            due("thing(" + i + ", 1)", x.thing(i, 1), i + 1);
        }
        due("thing(3, 2)", x.thing(3, 2), 16);
        due("thing(1, 3)", x.thing(1, 3), 2);
        due("thing(4, 4)", x.thing(4, 4), 5);
        due("thing(1, 5)", x.thing(1, 5), 22);
        refused(x, "thing(6, 0)", () -> x.thing(6, 0), -1);
        refused(x, "thing(-1, 0)", () -> x.thing(-1, 0), -1);
        refused(x, "thing(6, 6)", () -> x.thing(6, 6), -1);
        refused(x, "thing(0, 6)", () -> x.thing(0, 6), -2);
        refused(x, "thing(0, -1)", () -> x.thing(0, -1), -2);
    }

    private static void heft(RopesTieThemselves x, int thing, int hour, int want) {
        x.on();
        due("heft of " + thing + " in hour " + hour, x.thingThen(thing, hour, 1), want);
        if (hour > 0) {
            x.hours(hour);
        }
        due("heft of " + thing + " now, in hour " + hour, x.thing(thing, 5), want);
    }

    private static void kinds() {
        promise = 4;
        RopesTieThemselves x = told("tt910;tp510;tb310;ts410;tf905;ti701;tb000;ts000;s01;s41;s52;");
        x.image();
        int[] night = {0, 1, 5, 24, 29};
        for (int hour : night) {
            heft(x, 1, hour, 10);
            heft(x, 2, hour, 9);
            heft(x, 3, hour, hour % 2 == 1 ? 14 : 9);
            // Nothing is below 0, and the smuggler's 5 come on top of that.
            heft(x, 6, hour, 0);
            heft(x, 7, hour, hour % 2 == 1 ? 5 : 0);
        }
        int[] day = {6, 11, 18, 23, 30, 42};
        for (int hour : day) {
            heft(x, 0, hour, 12);
            heft(x, 1, hour, 10);
            heft(x, 2, hour, 10);
            heft(x, 3, hour, hour % 2 == 1 ? 15 : 10);
        }
        int[] afternoon = {12, 13, 17, 36, 41};
        for (int hour : afternoon) {
            heft(x, 0, hour, 12);
            heft(x, 1, hour, 15);
            heft(x, 2, hour, 13);
            heft(x, 3, hour, hour % 2 == 1 ? 19 : 14);
            heft(x, 4, hour, 3);
            heft(x, 5, hour, 32);
        }
    }

    private static void rope() {
        promise = 5;
        RopesTieThemselves x = told("tt010;tt011;tt011;r10;r02;r21;");
        due("rope(0, 0)", x.rope(0, 0), 1);
        due("rope(0, 1)", x.rope(0, 1), 0);
        due("rope(0, 2)", x.rope(0, 2), 1);
        due("rope(1, 0)", x.rope(1, 0), 0);
        due("rope(1, 2)", x.rope(1, 2), 2);
        due("rope(2, 2)", x.rope(2, 2), -9);
        refused(x, "rope(3, 0)", () -> x.rope(3, 0), -1);
        refused(x, "rope(-1, 0)", () -> x.rope(-1, 0), -1);
        refused(x, "rope(3, 3)", () -> x.rope(3, 3), -1);
        refused(x, "rope(0, 3)", () -> x.rope(0, 3), -2);
        refused(x, "rope(0, -1)", () -> x.rope(0, -1), -2);
    }

    private static void ties() {
        promise = 6;
        RopesTieThemselves x = told("tt010;tt011;tt012;");
        refused(x, "ties(0, 3)", () -> x.ties(0, 3), -1);
        refused(x, "ties(3, 0)", () -> x.ties(3, 0), -1);
        refused(x, "ties(-1, 0)", () -> x.ties(-1, 0), -1);
        refused(x, "ties(0, -1)", () -> x.ties(0, -1), -1);
        refused(x, "ties(1, 1)", () -> x.ties(1, 1), -1);
        for (int i = 0; i < 6; i++) {
            due("ties(0, 1)", x.ties(i % 2, 2), i);
        }
        due("rope(5, 0)", x.rope(5, 0), 1);
        due("rope(5, 1)", x.rope(5, 1), 2);
        refused(x, "a 7th", () -> x.ties(0, 1), -6);
        refused(x, "a 7th, one twice", () -> x.ties(1, 1), -1);
        due("count(1)", x.count(1), 6);
    }

    private static void cuts() {
        promise = 7;
        RopesTieThemselves x = told("tt010;tt011;tt012;r01;r12;r20;");
        refused(x, "cuts(3)", () -> x.cuts(3), -1);
        refused(x, "cuts(-1)", () -> x.cuts(-1), -1);
        due("cuts(1)", x.cuts(1), 2);
        due("rope 0 stays", x.rope(0, 0) * 10 + x.rope(0, 1), 1);
        due("rope 2 is rope 1", x.rope(1, 0) * 10 + x.rope(1, 1), 20);
        refused(x, "rope(2, 0)", () -> x.rope(2, 0), -1);
        due("cuts(1)", x.cuts(1), 1);
        due("cuts(0)", x.cuts(0), 0);
        refused(x, "cuts(0)", () -> x.cuts(0), -1);
    }

    private static void stonesWeighsLifts() {
        RopesTieThemselves x = told("tt010;tt011;s13;u107;");
        promise = 8;
        due("stones(1, 9)", x.stones(1, 9), 3);
        due("stones(1, 0)", x.stones(1, 0), 9);
        due("thing(1, 3)", x.thing(1, 3), 0);
        due("stones(0, 4)", x.stones(0, 4), 0);
        due("thing(0, 5)", x.thing(0, 5), 18);
        refused(x, "stones(2, -1)", () -> x.stones(2, -1), -1);
        refused(x, "stones(-1, 10)", () -> x.stones(-1, 10), -1);
        refused(x, "stones(0, -1)", () -> x.stones(0, -1), -4);
        refused(x, "stones(0, 10)", () -> x.stones(0, 10), -6);
        promise = 9;
        due("weighs(1, 60)", x.weighs(1, 60), 11);
        due("weighs(1, 0)", x.weighs(1, 0), 60);
        due("thing(1, 2)", x.thing(1, 2), 0);
        refused(x, "weighs(2, -1)", () -> x.weighs(2, -1), -1);
        refused(x, "weighs(-1, 61)", () -> x.weighs(-1, 61), -1);
        refused(x, "weighs(0, -1)", () -> x.weighs(0, -1), -4);
        refused(x, "weighs(0, 61)", () -> x.weighs(0, 61), -6);
        promise = 10;
        due("lifts(1, 20)", x.lifts(1, 20), 7);
        due("lifts(1, 0)", x.lifts(1, 0), 20);
        due("thing(1, 4)", x.thing(1, 4), 0);
        refused(x, "lifts(2, -1)", () -> x.lifts(2, -1), -1);
        refused(x, "lifts(-1, 21)", () -> x.lifts(-1, 21), -1);
        refused(x, "lifts(0, -1)", () -> x.lifts(0, -1), -4);
        refused(x, "lifts(0, 21)", () -> x.lifts(0, 21), -6);
    }

    private static void turn() {
        promise = 11;
        RopesTieThemselves x = told("ts710;tt011;s02;u003;");
        due("turn(0, 5, 9)", x.turn(0, 5, 9), 37);
        due("heft of a ship", x.thing(0, 5), 10 + 4 + 20 + 9);
        due("turn(0, 0, 0)", x.turn(0, 0, 0), 59);
        due("turn(0, 1, 1)", x.turn(0, 1, 1), 0);
        due("weight, stones, height stay", x.thing(0, 2) * 100 + x.thing(0, 3) * 10 + x.thing(0, 4), 1023);
        refused(x, "turn(2, 6, -1)", () -> x.turn(2, 6, -1), -1);
        refused(x, "turn(-1, 0, 0)", () -> x.turn(-1, 0, 0), -1);
        refused(x, "turn(0, 6, -1)", () -> x.turn(0, 6, -1), -2);
        refused(x, "turn(0, -1, 10)", () -> x.turn(0, -1, 10), -2);
        refused(x, "turn(0, 0, -1)", () -> x.turn(0, 0, -1), -4);
        refused(x, "turn(0, 0, 10)", () -> x.turn(0, 0, 10), -6);
    }

    private static void hours() {
        promise = 12;
        RopesTieThemselves x = told("tt010;tt005;tt001;r01;r12;u003;");
        // Rope 0 lifts 1 and lets 0 down; rope 1 then lets 1 down again and lifts 2.
        due("hours(1)", x.hours(1), 3);
        due("0", x.thing(0, 4), 2);
        due("1", x.thing(1, 4), 0);
        due("2", x.thing(2, 4), 1);
        due("hours(19)", x.hours(19), 20);
        due("2 is up", x.thing(2, 4), 20);
        due("hours(60)", x.hours(60), 20);
        due("count(2)", x.count(2), 80);
        RopesTieThemselves y = told("tt010;tt005;tt001;r12;r01;");
        // The other way about 1 is let down, at 0 already, and then lifted.
        due("hours(1)", y.hours(1), 2);
        due("1", y.thing(1, 4), 1);
        due("hours(2), which is as above by 1 each", y.hours(2), 1 + 3);
        refused(x, "hours(0)", () -> x.hours(0), -4);
        refused(x, "hours(-5)", () -> x.hours(-5), -4);
        refused(x, "hours(61)", () -> x.hours(61), -6);
        refused(x, "hours(most)", () -> x.hours(Integer.MAX_VALUE), -6);
        for (int i = 0; i < 15; i++) {
            x.hours(60);
        }
        due("count(2)", x.count(2), 980);
        refused(x, "above 999", () -> x.hours(20), -6);
        due("hours(19)", x.hours(19), 20);
        due("count(2)", x.count(2), 999);
        refused(x, "above 999", () -> x.hours(1), -6);
        refused(x, "below first", () -> x.hours(0), -4);
        // The hour that has come, not the one that has gone, tells the heft.
        RopesTieThemselves z = told("ts010;tt012;r01;");
        due("at 0 the smuggler has 9 and is held in the first hour for 14", z.hours(1), 1);
        due("thing 1 is up", z.thing(1, 4), 1);
        due("no things", new RopesTieThemselves().hours(60), 0);
    }

    private static void thingThen() {
        promise = 13;
        RopesTieThemselves x = told("ts010;tt012;r01;u005;");
        due("thingThen(0, 0, 0)", x.thingThen(0, 0, 0), 5);
        due("thingThen(0, 1, 0)", x.thingThen(0, 1, 0), 4);
        due("thingThen(0, 2, 0)", x.thingThen(0, 2, 0), 5);
        due("thingThen(1, 1, 0)", x.thingThen(1, 1, 0), 1);
        due("thingThen(0, 0, 1)", x.thingThen(0, 0, 1), 9);
        due("thingThen(0, 1, 1)", x.thingThen(0, 1, 1), 14);
        due("thingThen(0, 99, 1)", x.thingThen(0, 99, 1), 14);
        due("it was in mind", x.thing(0, 4) * 100 + x.count(2), 500);
        refused(x, "thingThen(2, -1, 2)", () -> x.thingThen(2, -1, 2), -1);
        refused(x, "thingThen(-1, 0, 0)", () -> x.thingThen(-1, 0, 0), -1);
        refused(x, "thingThen(0, -1, 2)", () -> x.thingThen(0, -1, 2), -4);
        refused(x, "thingThen(0, 100, 2)", () -> x.thingThen(0, 100, 2), -6);
        refused(x, "thingThen(0, 0, 2)", () -> x.thingThen(0, 0, 2), -2);
        refused(x, "thingThen(0, 0, -1)", () -> x.thingThen(0, 0, -1), -2);
        for (int i = 0; i < 16; i++) {
            x.hours(60);
        }
        x.hours(39);
        // Hour 1098 is hour 18 of its day, and even; hour 1001 is hour 17 of its day.
        due("past 999", x.thingThen(0, 99, 1), 10);
        due("past 999, odd", x.thingThen(0, 2, 1), 15);
        due("count(2)", x.count(2), 999);
    }

    private static void ropeThen() {
        promise = 14;
        RopesTieThemselves x = told("ts010;tt014;tt014;r01;r12;");
        due("ropeThen(0, 0)", x.ropeThen(0, 0), 1);
        due("ropeThen(0, 1), 14 each", x.ropeThen(0, 1), -9);
        due("ropeThen(0, 7)", x.ropeThen(0, 7), 0);
        due("ropeThen(0, 8)", x.ropeThen(0, 8), 1);
        due("ropeThen(0, 99), rest 3", x.ropeThen(0, 99), -9);
        due("ropeThen(1, 50)", x.ropeThen(1, 50), -9);
        due("it was in mind", x.count(2), 0);
        refused(x, "ropeThen(2, -1)", () -> x.ropeThen(2, -1), -1);
        refused(x, "ropeThen(-1, 100)", () -> x.ropeThen(-1, 100), -1);
        refused(x, "ropeThen(0, -1)", () -> x.ropeThen(0, -1), -4);
        refused(x, "ropeThen(0, 100)", () -> x.ropeThen(0, 100), -6);
    }

    private static void up() {
        promise = 15;
        RopesTieThemselves x = told("tt010;tt011;r01;u004;");
        due("up(0, 4)", x.up(0, 4), 0);
        due("up(0, 3)", x.up(0, 3), 0);
        due("up(0, 5)", x.up(0, 5), 1);
        due("up(0, 20)", x.up(0, 20), 16);
        due("up(1, 0)", x.up(1, 0), 0);
        due("up(1, 1)", x.up(1, 1), -9);
        refused(x, "up(2, -1)", () -> x.up(2, -1), -1);
        refused(x, "up(-1, 21)", () -> x.up(-1, 21), -1);
        refused(x, "up(0, -1)", () -> x.up(0, -1), -4);
        refused(x, "up(0, 21)", () -> x.up(0, 21), -6);
        // Heavier but in the six afternoon hours of each day, the first of which is 12 hours on: it is
        // up 6 in hour 17, and down again at 23.
        RopesTieThemselves y = told("tt010;tp909;r01;");
        due("up(0, 6)", y.up(0, 6), 17);
        due("up(0, 7)", y.up(0, 7), -9);
        due("up(1, 11)", y.up(1, 11), 11);
        // It is 5 high in hour 17, and goes up again until the next noon.
        due("up(1, 12)", y.up(1, 12), 24);
        due("up(1, 20)", y.up(1, 20), 32);
    }

    private static void first() {
        promise = 16;
        RopesTieThemselves x = told("tt010;tt011;tt009;r01;r12;u004;u204;");
        // Rope 0: 0 up, 1 down; rope 1: 2 up, 1 down. Both are up together.
        due("first(0)", x.first(0), 0);
        due("first(1)", x.first(1), 16);
        due("first(2)", x.first(2), 16);
        x.lifts(2, 5);
        due("first(0)", x.first(0), 2);
        due("first(1)", x.first(1), 15);
        due("first(2)", x.first(2), 16);
        x.lifts(1, 20);
        due("first(0) now", x.first(0), 1);
        due("first(1) now", x.first(1), 0);
        refused(x, "first(3)", () -> x.first(3), -2);
        refused(x, "first(-1)", () -> x.first(-1), -2);
        RopesTieThemselves none = told("tt010;tt010;r01;u119;");
        due("first(0)", none.first(0), -9);
        due("first(1)", none.first(1), -9);
        due("first(2)", none.first(2), 0);
        // A smuggler who is heavier in odd hours alone never lets all rest.
        RopesTieThemselves restless = told("ts010;tt012;r01;u010;u110;");
        due("first(2)", restless.first(2), -9);
        due("first(0)", restless.first(0), -9);
        // 1 goes up and comes down in each hour: behind the hour all is as before, and so it rests.
        RopesTieThemselves chain = told("tt010;tt005;tt001;r01;r12;");
        due("first(2)", chain.first(2), 20);
        // A still hour, not a still end: it rests now, for the 9s pull in no hour but odd ones.
        RopesTieThemselves still = told("ts009;tt008;r01;h01;");
        due("first(2) with 8 each in even hours", still.first(2), 0);
        due("no things", new RopesTieThemselves().first(0), -9);
    }

    private static void changes() {
        promise = 17;
        RopesTieThemselves x = told("tp310;tt012;tt012;tt010;r01;r12;r03;");
        due("changes(0), the afternoon", x.changes(0), 12);
        due("changes(1)", x.changes(1), -9);
        due("changes(2), from neither", x.changes(2), 12);
        x.hours(12);
        due("changes(0), the evening", x.changes(0), 6);
        x.hours(6);
        due("changes(0), the next day", x.changes(0), 18);
        x.weighs(0, 9);
        due("changes(0), alike then", x.changes(0), 18);
        refused(x, "changes(3)", () -> x.changes(3), -1);
        refused(x, "changes(-1)", () -> x.changes(-1), -1);
    }

    /** What comes 100 hours on is too far off, and an hour later just near enough. */
    private static void ninetyNine() {
        promise = 15;
        RopesTieThemselves x = told("ts911;tp015;r10;u015;u101;h11;");
        due("up, 100 hours on", x.up(1, 17), -9);
        x.hours(1);
        due("up, 99 hours on", x.up(1, 17), 99);
        due("98 hours on it is lower", x.thingThen(1, 98, 0), 16);
        promise = 16;
        RopesTieThemselves y = told("tt814;ts310;r01;u009;u106;");
        due("first, 100 hours on", y.first(0), -9);
        due("when, 100 hours on", y.first(1), -9);
        y.hours(1);
        due("first, 99 hours on", y.first(0), 1);
        due("when, 99 hours on", y.first(1), 99);
        RopesTieThemselves z = told("ts810;tt414;tp012;r20;r10;u002;u107;u218;h10;");
        due("rests, 100 hours on", z.first(2), -9);
        z.hours(1);
        due("rests, 99 hours on", z.first(2), 99);
        z.hours(60);
        z.hours(39);
        int[] before = heights(z);
        z.hours(1);
        due("the hour behind it changes nothing", Arrays.equals(before, heights(z)) ? 1 : 0, 1);
        promise = 33;
        RopesTieThemselves w = told("ts710;tp113;tb515;r02;r10;u002;u118;u209;h06;");
        due("meet, 100 hours on", w.meet(0, 1), -9);
        w.hours(1);
        due("meet, 99 hours on", w.meet(0, 1), 99);
        due("they are at one height", w.thingThen(0, 99, 0), w.thingThen(1, 99, 0));
    }

    private static void throwsDown() {
        promise = 18;
        RopesTieThemselves x = told("tt010;tt011;r01;s03;u005;u109;");
        // 16 against 11: with 2 fewer stones 12, with 3 fewer 10.
        due("throwsDown(0, 6, 1)", x.throwsDown(0, 6, 1), 3);
        due("throwsDown(0, 8, 3)", x.throwsDown(0, 8, 3), 3);
        due("throwsDown(0, 9, 3)", x.throwsDown(0, 9, 3), -9);
        due("throwsDown(0, 4, 1)", x.throwsDown(0, 4, 1), 0);
        due("throwsDown(0, 5, 0)", x.throwsDown(0, 5, 0), 0);
        x.weighs(1, 12);
        due("12 against 12", x.throwsDown(0, 5, 9), 2);
        due("throwsDown(0, 20, 30)", x.throwsDown(0, 20, 30), 3);
        due("they are in mind", x.thing(0, 3), 3);
        refused(x, "throwsDown(2, -1, -1)", () -> x.throwsDown(2, -1, -1), -1);
        refused(x, "throwsDown(0, 21, -1)", () -> x.throwsDown(0, 21, -1), -4);
        refused(x, "throwsDown(0, -1, 31)", () -> x.throwsDown(0, -1, 31), -4);
        refused(x, "throwsDown(0, 21, 0)", () -> x.throwsDown(0, 21, 0), -6);
        refused(x, "throwsDown(0, 0, 31)", () -> x.throwsDown(0, 0, 31), -6);
    }

    private static void takesUp() {
        promise = 19;
        RopesTieThemselves x = told("tt010;tt013;r01;s01;u005;");
        // 12 against 13: with a stone more 14.
        due("takesUp(0, 4, 1)", x.takesUp(0, 4, 1), 1);
        due("takesUp(0, 6, 1)", x.takesUp(0, 6, 1), 0);
        due("takesUp(0, 0, 5)", x.takesUp(0, 0, 5), 1);
        due("takesUp(0, 0, 4)", x.takesUp(0, 0, 4), -9);
        x.weighs(1, 27);
        due("28 with 9 stones", x.takesUp(0, 4, 1), 8);
        x.weighs(1, 28);
        due("28 against 28", x.takesUp(0, 4, 1), -9);
        due("it stays at 5", x.takesUp(0, 5, 1), 8);
        due("takesUp(0, 20, 30)", x.takesUp(0, 20, 30), 0);
        due("they are in mind", x.thing(0, 3), 1);
        refused(x, "takesUp(2, -1, -1)", () -> x.takesUp(2, -1, -1), -1);
        refused(x, "takesUp(0, 21, -1)", () -> x.takesUp(0, 21, -1), -4);
        refused(x, "takesUp(0, -1, 31)", () -> x.takesUp(0, -1, 31), -4);
        refused(x, "takesUp(0, 21, 0)", () -> x.takesUp(0, 21, 0), -6);
        refused(x, "takesUp(0, 0, 31)", () -> x.takesUp(0, 0, 31), -6);
    }

    private static void bestTie() {
        promise = 20;
        RopesTieThemselves x = told("tt005;tt010;tt004;tt010;tp905;");
        due("bestTie(0, 3), of 1 and 3 the least", x.bestTie(0, 3), 1);
        due("bestTie(0, 0)", x.bestTie(0, 0), -9);
        due("bestTie(1, 17), heavier in the afternoon", x.bestTie(1, 17), 4);
        due("bestTie(1, 30), down again by then", x.bestTie(1, 30), -9);
        due("bestTie(3, 11), 10 each", x.bestTie(3, 11), -9);
        x.weighs(4, 0);
        due("bestTie(2, 9)", x.bestTie(2, 9), 0);
        x.lifts(2, 20);
        due("bestTie(2, 9), up already", x.bestTie(2, 9), -9);
        x.lifts(2, 0);
        for (int i = 0; i < 5; i++) {
            x.ties(1, 3);
        }
        due("bestTie(2, 9) with room for one", x.bestTie(2, 9), 0);
        x.ties(1, 3);
        due("bestTie(2, 9) with six", x.bestTie(2, 9), -9);
        due("it was in mind", x.count(1), 6);
        refused(x, "bestTie(5, -1)", () -> x.bestTie(5, -1), -1);
        refused(x, "bestTie(-1, 31)", () -> x.bestTie(-1, 31), -1);
        refused(x, "bestTie(0, -1)", () -> x.bestTie(0, -1), -4);
        refused(x, "bestTie(0, 31)", () -> x.bestTie(0, 31), -6);
        // The rope more is the last: 0 is lifted by it behind the others.
        RopesTieThemselves last = told("tt005;tt001;tt010;r01;");
        due("bestTie(0, 1)", last.bestTie(0, 1), 2);
    }

    private static void bestCut() {
        promise = 21;
        RopesTieThemselves x = told("tt005;tt001;tt002;tt010;r01;r02;r03;u010;");
        // Two let it down, one lifts it: without either of the two it stays.
        due("bestCut(0, 4)", x.bestCut(0, 4), 0);
        due("bestCut(0, 0)", x.bestCut(0, 0), -9);
        due("bestCut(1, 4), it would go up no more", x.bestCut(1, 4), -9);
        due("bestCut(3, 30)", x.bestCut(3, 30), -9);
        x.cuts(0);
        due("bestCut(0, 4), one each", x.bestCut(0, 4), 0);
        x.cuts(1);
        due("bestCut(0, 4), one lets down", x.bestCut(0, 4), 0);
        due("it was in mind", x.count(1), 1);
        x.cuts(0);
        due("no ropes", x.bestCut(0, 4), -9);
        refused(x, "bestCut(4, -1)", () -> x.bestCut(4, -1), -1);
        refused(x, "bestCut(-1, 31)", () -> x.bestCut(-1, 31), -1);
        refused(x, "bestCut(0, -1)", () -> x.bestCut(0, -1), -4);
        refused(x, "bestCut(0, 31)", () -> x.bestCut(0, 31), -6);
        RopesTieThemselves y = told("tt005;tt010;tt001;r01;r02;u010;");
        due("the second one", y.bestCut(0, 4), 1);
    }

    private static void bestStone() {
        promise = 22;
        RopesTieThemselves x = told("tt010;tt010;r01;");
        // A stone makes one heavier, and the other goes up; with either alike.
        due("bestStone(3)", x.bestStone(3), 0);
        due("bestStone(0)", x.bestStone(0), -9);
        x.stones(0, 9);
        x.weighs(1, 28);
        due("9 stones are the most", x.bestStone(3), 1);
        x.weighs(1, 27);
        due("1 goes up already", x.bestStone(3), -9);
        RopesTieThemselves later = told("tt005;tt020;tt010;tt010;r01;r23;");
        due("the third, for the first two go already", later.bestStone(3), 2);
        later.ties(3, 1);
        due("its stone would not do what the other's does", later.bestStone(3), stoneByHand(later, 3));
        x.weighs(1, 26);
        due("1 goes up still", x.bestStone(3), -9);
        due("it was in mind", x.thing(1, 3), 0);
        refused(x, "bestStone(-1)", () -> x.bestStone(-1), -4);
        refused(x, "bestStone(31)", () -> x.bestStone(31), -6);
        due("no things", new RopesTieThemselves().bestStone(30), -9);
    }

    private static int stoneByHand(RopesTieThemselves x, int n) {
        x.image();
        int most = x.hours(n);
        int best = -9;
        x.on();
        for (int i = 0; i < x.count(0); i++) {
            x.stones(i, x.thing(i, 3) + 1);
            int sum = x.hours(n);
            if (sum > most) {
                most = sum;
                best = i;
            }
            x.on();
        }
        return best;
    }

    private static void rows() {
        promise = 23;
        RopesTieThemselves x = told("tt010;ti001;tt010;tt030;tf021;");
        int[] order = {3, 1, 0, 2, 4};
        for (int i = 0; i < order.length; i++) {
            due("rows(" + i + ")", x.rows(i), order[i]);
        }
        due("rows(5)", x.rows(5), -9);
        due("rows(8)", x.rows(8), -9);
        due("rows(most)", x.rows(Integer.MAX_VALUE), -9);
        refused(x, "rows(-1)", () -> x.rows(-1), -4);
        x.weighs(4, 41);
        due("20 stands behind 21", x.rows(2), 4);
        due("no things", new RopesTieThemselves().rows(0), -9);
    }

    private static void between() {
        promise = 24;
        RopesTieThemselves x = told("tt010;tt020;tt010;tt015;tt020;tt011;tt019;");
        due("between(0, 1)", x.between(0, 1), 3);
        due("between(1, 0)", x.between(1, 0), 3);
        due("between(0, 2)", x.between(0, 2), 0);
        due("between(5, 6)", x.between(5, 6), 1);
        due("between(5, 3)", x.between(5, 3), 0);
        refused(x, "between(0, 0)", () -> x.between(0, 0), -1);
        refused(x, "between(7, 0)", () -> x.between(7, 0), -1);
        refused(x, "between(0, 7)", () -> x.between(0, 7), -1);
        refused(x, "between(-1, 0)", () -> x.between(-1, 0), -1);
        refused(x, "between(0, -1)", () -> x.between(0, -1), -1);
    }

    private static void balance() {
        promise = 25;
        RopesTieThemselves x = told("tt010;tt004;tt006;tt003;tt007;tt000;tt001;");
        // 4 and 6 come ahead of 3 and 7.
        due("balance(0)", x.balance(0), 2 | 4);
        due("balance(4): 4 and 3 are two, 6 and 1 are two", x.balance(4), 2 | 8);
        due("balance(1): 3 and 1", x.balance(1), 8 | 64);
        due("balance(6)", x.balance(6), -9);
        due("balance(5), of heft 0", x.balance(5), 0);
        port(x, "tt010;");
        due("balance(0), one", x.balance(0), 128);
        due("balance(7), one", x.balance(7), 1);
        refused(x, "balance(8)", () -> x.balance(8), -1);
        refused(x, "balance(-1)", () -> x.balance(-1), -1);
    }

    private static void nearest() {
        promise = 26;
        RopesTieThemselves x = told("tt010;tt014;tt006;tt030;");
        due("nearest(0), of 1 and 2 the least", x.nearest(0), 1);
        due("nearest(1)", x.nearest(1), 0);
        due("nearest(2)", x.nearest(2), 0);
        due("nearest(3)", x.nearest(3), 1);
        x.weighs(2, 7);
        due("nearest(0)", x.nearest(0), 2);
        due("nearest of one", told("tt010;").nearest(0), -9);
        refused(x, "nearest(4)", () -> x.nearest(4), -1);
        refused(x, "nearest(-1)", () -> x.nearest(-1), -1);
    }

    private static RopesTieThemselves eight(String ropes) {
        return told("tt001;tt002;tt003;tt004;tt005;tt006;tt007;tt008;", ropes);
    }

    private static void chain() {
        promise = 27;
        RopesTieThemselves x = eight("r67;r56;r45;r12;r32;");
        due("chain(0)", x.chain(0), 1);
        due("chain(1)", x.chain(1), 2 | 4 | 8);
        due("chain(3)", x.chain(3), 2 | 4 | 8);
        due("chain(4)", x.chain(4), 16 | 32 | 64 | 128);
        due("chain(7)", x.chain(7), 16 | 32 | 64 | 128);
        RopesTieThemselves far = eight("r56;r45;r34;r23;r12;r01;");
        due("chain(0), six ropes on", far.chain(0), 127);
        due("chain(6), six ropes back", far.chain(6), 127);
        refused(x, "chain(8)", () -> x.chain(8), -1);
        refused(x, "chain(-1)", () -> x.chain(-1), -1);
    }

    private static void chains() {
        promise = 28;
        RopesTieThemselves x = eight("r67;r56;r45;r12;r32;");
        due("chains(0)", x.chains(0), 3);
        due("chains(1)", x.chains(1), 4);
        due("chains(2)", x.chains(2), 0);
        x.ties(7, 4);
        due("chains(0) with a ring", x.chains(0), 3);
        due("chains(2) with a ring", x.chains(2), 1);
        x.cuts(0);
        due("chains(2), cut", x.chains(2), 0);
        x.ties(1, 2);
        due("two ropes between the same two", x.chains(2), 1);
        RopesTieThemselves none = new RopesTieThemselves();
        due("chains(0) of none", none.chains(0), 0);
        due("chains(1) of none", none.chains(1), 0);
        due("chains(2) of none", none.chains(2), 0);
        due("chains(1) of one", told("tt001;").chains(1), 1);
        refused(x, "chains(3)", () -> x.chains(3), -2);
        refused(x, "chains(-1)", () -> x.chains(-1), -2);
    }

    private static void sides() {
        promise = 29;
        RopesTieThemselves x = told("tt004;tt005;tt006;tt007;");
        // 4 and 7 against 5 and 6.
        due("sides(0)", x.sides(0), 1 | 8);
        due("sides(1)", x.sides(1), 0);
        x.weighs(3, 30);
        due("all against 30", x.sides(0), 1 | 2 | 4);
        due("by 15", x.sides(1), 15);
        x.weighs(0, 60);
        due("60 alone", x.sides(0), 1);
        due("by 19", x.sides(1), 19);
        RopesTieThemselves alike = told("tt003;tt003;tt003;tt003;");
        due("of several the least", alike.sides(0), 3);
        due("one", told("tt009;").sides(0), 1);
        due("one is 9 apart from nothing", told("tt009;").sides(1), 9);
        due("nobody", new RopesTieThemselves().sides(0), -9);
        due("nobody", new RopesTieThemselves().sides(1), -9);
        refused(x, "sides(2)", () -> x.sides(2), -2);
        refused(x, "sides(-1)", () -> x.sides(-1), -2);
    }

    private static void hauled() {
        promise = 30;
        RopesTieThemselves x = eight("r67;r56;r45;r12;r32;");
        due("hauled(4, 7)", x.hauled(4, 7), 1);
        due("hauled(7, 4)", x.hauled(7, 4), 0);
        due("hauled(5, 6)", x.hauled(5, 6), 1);
        due("hauled(1, 3)", x.hauled(1, 3), 1);
        due("hauled(3, 2)", x.hauled(3, 2), 0);
        due("hauled(0, 1)", x.hauled(0, 1), 0);
        x.weighs(5, 7);
        due("by 7 to 7 nothing holds", x.hauled(4, 7), 0);
        due("hauled(4, 5)", x.hauled(4, 5), 1);
        RopesTieThemselves far = eight("r56;r45;r34;r23;r12;r01;");
        due("six ropes on", far.hauled(0, 6), 1);
        refused(x, "hauled(0, 0)", () -> x.hauled(0, 0), -1);
        refused(x, "hauled(8, 0)", () -> x.hauled(8, 0), -1);
        refused(x, "hauled(0, 8)", () -> x.hauled(0, 8), -1);
        refused(x, "hauled(-1, 0)", () -> x.hauled(-1, 0), -1);
        refused(x, "hauled(0, -1)", () -> x.hauled(0, -1), -1);
    }

    private static void top() {
        promise = 31;
        RopesTieThemselves x = told("tt005;tt009;tt007;tt009;tt004;tt060;r01;r02;r03;r40;");
        due("top(4), of 1 and 3 the least", x.top(4), 1);
        due("top(0)", x.top(0), 1);
        due("top(1)", x.top(1), 1);
        due("top(5)", x.top(5), 5);
        x.weighs(2, 10);
        due("top(4)", x.top(4), 2);
        x.weighs(0, 4);
        due("top(4), 4 each", x.top(4), 4);
        refused(x, "top(6)", () -> x.top(6), -1);
        refused(x, "top(-1)", () -> x.top(-1), -1);
    }

    private static void odd() {
        promise = 32;
        RopesTieThemselves x = told("tt010;tt010;tf020;tt011;r01;r03;r12;r23;");
        due("odd()", x.odd(), 1 | 4);
        x.weighs(3, 10);
        due("odd()", x.odd(), 15);
        x.weighs(1, 11);
        due("odd()", x.odd(), 2 | 8);
        due("none", new RopesTieThemselves().odd(), 0);
    }

    private static void meet() {
        promise = 33;
        RopesTieThemselves x = told("tt010;tt011;tt010;r01;u110;u220;");
        due("meet(0, 1)", x.meet(0, 1), 5);
        due("meet(1, 0)", x.meet(1, 0), 5);
        due("meet(0, 2)", x.meet(0, 2), 20);
        due("meet(1, 2)", x.meet(1, 2), -9);
        x.lifts(1, 9);
        due("they pass: 4 and 5, then 5 and 4", x.meet(0, 1), -9);
        x.lifts(0, 9);
        due("now", x.meet(0, 1), 0);
        refused(x, "meet(0, 0)", () -> x.meet(0, 0), -1);
        refused(x, "meet(3, 0)", () -> x.meet(3, 0), -1);
        refused(x, "meet(0, 3)", () -> x.meet(0, 3), -1);
        refused(x, "meet(-1, 0)", () -> x.meet(-1, 0), -1);
        refused(x, "meet(0, -1)", () -> x.meet(0, -1), -1);
    }

    private static void two() {
        promise = 34;
        RopesTieThemselves x = told("tt010;tt010;r01;u005;u105;");
        // Who eats alone comes down: neither does.
        due("two(0, 1, 3)", x.two(0, 1, 3), 0);
        // A third between the two, heavier than the one and lighter than the other.
        RopesTieThemselves y = told("tt010;tt020;tt012;r02;r21;u010;u110;");
        due("two(0, 1, 5)", y.two(0, 1, 5), 0);
        due("two(0, 1, 0), all alike", y.two(0, 1, 0), 0);
        // Persons of whom another one is the heavier by noon.
        RopesTieThemselves z = told("tp910;tt015;tp915;r01;r12;r20;u010;u110;u210;");
        due("two(0, 1, 20)", z.two(0, 1, 20), twoByHand(z, 0, 1, 20));
        due("two(1, 2, 20)", z.two(1, 2, 20), twoByHand(z, 1, 2, 20));
        due("two(2, 0, 30)", z.two(2, 0, 30), twoByHand(z, 2, 0, 30));
        z.stones(0, 8);
        z.stones(1, 9);
        z.stones(2, 7);
        due("two(0, 1, 20), 9 at most", z.two(0, 1, 20), twoByHand(z, 0, 1, 20));
        due("two(1, 2, 13), 9 at most", z.two(1, 2, 13), twoByHand(z, 1, 2, 13));
        due("they are in mind", z.count(4), 24);
        refused(x, "two(0, 0, -1)", () -> x.two(0, 0, -1), -1);
        refused(x, "two(2, 0, 31)", () -> x.two(2, 0, 31), -1);
        refused(x, "two(0, 2, 0)", () -> x.two(0, 2, 0), -1);
        refused(x, "two(0, 1, -1)", () -> x.two(0, 1, -1), -4);
        refused(x, "two(0, 1, 31)", () -> x.two(0, 1, 31), -6);
        portsOfTwo();
    }

    /**
     * Who eats is never higher for it, nor the other lower, so no port can tell another answer than 0;
     * these hold it against what the real hours tell.
     */
    private static void portsOfTwo() {
        for (int weight = 0; weight < 24; weight++) {
            for (int n = 1; n <= 20; n += 3) {
                RopesTieThemselves x = told("tf712;ts510;tp908;tt011;r01;r12;r23;r30;r02;u009;u112;u210;");
                x.weighs(1, weight);
                x.weighs(3, 23 - weight);
                due("two with " + weight + ", " + n, x.two(0, 1, n), twoByHand(x, 0, 1, n));
            }
        }
    }

    private static int lead(RopesTieThemselves x, int a, int b, int n, int eats) {
        x.image();
        x.stones(a, Math.min(9, x.thing(a, 3) + 2 * (eats / 10)));
        x.stones(b, Math.min(9, x.thing(b, 3) + 2 * (eats % 10)));
        if (n > 0) {
            x.hours(n);
        }
        int answer = x.thing(a, 4) - x.thing(b, 4);
        x.on();
        return answer;
    }

    private static int twoByHand(RopesTieThemselves x, int a, int b, int n) {
        for (int eats : new int[] {0, 1, 10, 11}) {
            int own = lead(x, a, b, n, eats);
            boolean firstStays = lead(x, a, b, n, eats >= 10 ? eats - 10 : eats + 10) <= own;
            boolean otherStays = lead(x, a, b, n, eats % 10 == 1 ? eats - 1 : eats + 1) >= own;
            if (firstStays && otherStays) {
                return eats;
            }
        }
        return -9;
    }

    private static void wet() {
        promise = 35;
        RopesTieThemselves x = told("tt010;tt011;tt011;r01;r12;u005;u105;");
        // It is down instead of up by odds of 1 in 3.
        due("one hour, above", x.wet(0, 0, 1, 3, 6, 0), 2);
        due("one hour, below", x.wet(0, 0, 1, 3, 6, 1), 3);
        due("one hour, the other one, above", x.wet(0, 1, 1, 3, 6, 0), 1);
        due("one hour, the other one, below", x.wet(0, 1, 1, 3, 6, 1), 3);
        due("two hours, not wet twice: 8 of 9", x.wet(0, 0, 2, 3, 5, 0) * 10 + x.wet(0, 0, 2, 3, 5, 1), 89);
        due("two hours, 4 of 9", x.wet(0, 0, 2, 3, 6, 0) * 10 + x.wet(0, 0, 2, 3, 6, 1), 49);
        due("in least terms, 6 of 8", x.wet(0, 0, 2, 2, 5, 0) * 10 + x.wet(0, 0, 2, 2, 5, 1), 34);
        due("certain", x.wet(0, 0, 7, 20, 0, 0) * 10 + x.wet(0, 0, 7, 20, 0, 1), 11);
        due("never", x.wet(0, 0, 7, 20, 13, 0) * 10 + x.wet(0, 0, 7, 20, 13, 1), 1);
        due("all dry", x.wet(0, 0, 7, 20, 12, 0), 893871739L);
        due("all dry", x.wet(0, 0, 7, 20, 12, 1), 1280000000L);
        due("no hours", x.wet(0, 0, 0, 2, 5, 0) * 10 + x.wet(0, 0, 0, 2, 5, 1), 11);
        due("up to 20", x.wet(0, 0, 1, 2, 20, 0), 0);
        due("no hours", x.wet(0, 0, 0, 2, 6, 0) * 10 + x.wet(0, 0, 0, 2, 6, 1), 1);
        due("a rope that holds to neither", x.wet(1, 2, 7, 2, 1, 0) * 10 + x.wet(1, 2, 7, 2, 1, 1), 1);
        due("the other rope is wet", x.wet(1, 0, 3, 2, 8, 0) * 10 + x.wet(1, 0, 3, 2, 8, 1), 11);
        refusedLong(x, "wet(2, 0, -1, 21, 0, 2)", () -> x.wet(2, 0, -1, 21, 0, 2), -1);
        refusedLong(x, "wet(-1, 0, 0, 2, 0, 0)", () -> x.wet(-1, 0, 0, 2, 0, 0), -1);
        refusedLong(x, "wet(0, 3, 8, 1, 0, 0)", () -> x.wet(0, 3, 8, 1, 0, 0), -1);
        refusedLong(x, "wet(0, -1, 0, 2, 0, 0)", () -> x.wet(0, -1, 0, 2, 0, 0), -1);
        refusedLong(x, "wet(0, 0, -1, 21, 21, 2)", () -> x.wet(0, 0, -1, 21, 21, 2), -4);
        refusedLong(x, "wet(0, 0, 8, 1, 21, 2)", () -> x.wet(0, 0, 8, 1, 21, 2), -4);
        refusedLong(x, "wet(0, 0, 8, 21, -1, 2)", () -> x.wet(0, 0, 8, 21, -1, 2), -4);
        refusedLong(x, "wet(0, 0, 8, 2, 0, 2)", () -> x.wet(0, 0, 8, 2, 0, 2), -6);
        refusedLong(x, "wet(0, 0, 0, 21, 0, 2)", () -> x.wet(0, 0, 0, 21, 0, 2), -6);
        refusedLong(x, "wet(0, 0, 0, 2, 21, 2)", () -> x.wet(0, 0, 0, 2, 21, 2), -6);
        refusedLong(x, "wet(0, 0, 0, 2, 0, 2)", () -> x.wet(0, 0, 0, 2, 0, 2), -2);
        refusedLong(x, "wet(0, 0, 0, 2, 0, -1)", () -> x.wet(0, 0, 0, 2, 0, -1), -2);
    }

    private static void mean() {
        promise = 36;
        RopesTieThemselves x = told("tt010;tt011;tt011;tt011;u005;u109;");
        due("14 by 4, above", x.mean(0), 7);
        due("14 by 4, below", x.mean(1), 2);
        x.lifts(0, 3);
        due("12 by 4, above", x.mean(0), 3);
        due("12 by 4, below", x.mean(1), 1);
        x.lifts(0, 0);
        x.lifts(1, 0);
        due("0 by 4, above", x.mean(0), 0);
        due("0 by 4, below", x.mean(1), 1);
        due("of nothing, above", new RopesTieThemselves().mean(0), 0);
        due("of nothing, below", new RopesTieThemselves().mean(1), 1);
        refusedLong(x, "mean(2)", () -> x.mean(2), -2);
        refusedLong(x, "mean(-1)", () -> x.mean(-1), -2);
    }

    private static void whatIs() {
        promise = 37;
        RopesTieThemselves x = told("tt512;tt014;r01;u010;u110;");
        due("without a row every kind", x.whatIs(0, 0), 63);
        due("without a row every weight", x.whatIs(0, 1), 61);
        x.row(10);
        due("it is there now", x.whatIs(0, 0), 63);
        x.row(11);
        // 12, 12, 11 and 6 are lighter than 14; a smuggler has 16 in hour 1, a ship 37.
        due("lighter in hour 1", x.whatIs(0, 0), 1 | 2 | 4 | 16);
        due("weights below 14", x.whatIs(0, 1), 14);
        x.row(12);
        due("lighter in hour 2", x.whatIs(0, 0), 1 | 2 | 4 | 16);
        for (int height = 13; height <= 20; height++) {
            x.row(height);
        }
        due("lighter until hour 10", x.whatIs(0, 0), 1 | 2 | 4 | 16);
        due("the row stays", x.count(6), 11);
        due("1 goes so by feathers' 7 alone", x.whatIs(1, 0), 16);
        x.lifts(1, 9);
        due("1 is not there now", x.whatIs(1, 0), 0);
        x.lifts(1, 10);
        x.clear();
        x.row(10);
        x.row(9);
        due("heavier in hour 1", x.whatIs(0, 0), 8 | 32);
        x.row(10);
        due("and lighter in hour 2", x.whatIs(0, 0), 8);
        due("no weight of a thing", x.whatIs(0, 1), 0);
        x.turn(0, 3, 5);
        // Less 1 and 5 more above 14, and less 1 below it: 11 .. 14.
        due("weights of a smuggler", x.whatIs(0, 1), 4);
        refused(x, "whatIs(2, 2)", () -> x.whatIs(2, 2), -1);
        refused(x, "whatIs(-1, 0)", () -> x.whatIs(-1, 0), -1);
        refused(x, "whatIs(0, 2)", () -> x.whatIs(0, 2), -2);
        refused(x, "whatIs(0, -1)", () -> x.whatIs(0, -1), -2);
    }

    private static void row() {
        promise = 38;
        RopesTieThemselves x = told("tt010;");
        due("row(0)", x.row(0), 1);
        due("row(99)", x.row(99), 2);
        refused(x, "row(-1)", () -> x.row(-1), -4);
        refused(x, "row(100)", () -> x.row(100), -6);
        for (int i = 3; i <= 16; i++) {
            due("row(" + i + ")", x.row(i), i);
        }
        refused(x, "the 17th", () -> x.row(0), -6);
        refused(x, "the 17th, below", () -> x.row(-1), -4);
        due("count(6)", x.count(6), 16);
    }

    private static int judged(RopesTieThemselves x, int... row) {
        for (int v : row) {
            x.row(v);
        }
        due("count(6)", x.count(6), row.length);
        int answer = x.judge();
        due("the row has none then", x.count(6), 0);
        return answer;
    }

    private static void judge() {
        promise = 39;
        RopesTieThemselves x = told("tt010;tt011;tt012;tt010;");
        due("none told", judged(x), -9);
        due("0 1", judged(x, 0, 1), -9);
        due("1 0", judged(x, 1, 0), 1);
        due("0 3, alike", judged(x, 0, 3), 1);
        due("0 0, one twice", judged(x, 0, 0), 1);
        due("4 0", judged(x, 4, 0), 0);
        due("0 4", judged(x, 0, 4), 1);
        due("99 99", judged(x, 99, 99), 0);
        due("0 1 1 2 3 2", judged(x, 0, 1, 1, 2, 3, 2), -9);
        due("0 1 2 1 9", judged(x, 0, 1, 2, 1, 9), 3);
        due("0 1 9 1", judged(x, 0, 1, 9, 1), 2);
        due("0", judged(x, 0), 0);
        due("0 1 1", judged(x, 0, 1, 1), 2);
        due("0 1 9", judged(x, 0, 1, 9), 2);
        due("sixteen", judged(x, 0, 1, 0, 1, 0, 1, 0, 1, 0, 1, 0, 1, 0, 1, 1, 1), 15);
        due("nothing is counted", x.count(11) + x.count(16), 0);
        x.weighs(0, 20);
        due("by heft now", judged(x, 2, 0), -9);
    }

    private static void clear() {
        promise = 40;
        RopesTieThemselves x = told("tt010;");
        due("clear()", x.clear(), 0);
        x.row(5);
        x.row(6);
        due("clear()", x.clear(), 2);
        due("clear()", x.clear(), 0);
        due("row(7)", x.row(7), 1);
        due("letters stay", x.letter('t'), 1);
        x.clear();
        due("count(7)", x.count(7), 1);
    }

    private static void lots() {
        promise = 41;
        // Draws of the seed 0: 1013904223 and so on; each lot is made by hand of the class's own hours.
        for (int z : new int[] {0, 1, 7, -1, Integer.MIN_VALUE, Integer.MAX_VALUE, 123456789}) {
            for (int n : new int[] {1, 2, 20}) {
                RopesTieThemselves x = told("tt010;tt011;tt010;r01;r12;u005;");
                due("lots(" + n + ", " + z + ", 0)", x.lots(n, z, 0), lotsByHand(x, n, z, true));
                due("lots(" + n + ", " + z + ", 1)", x.lots(n, z, 1), lotsByHand(x, n, z, false));
            }
        }
        RopesTieThemselves x = told("tt010;tt011;tt010;r01;r12;u005;");
        x.lots(20, 5, 0);
        due("it was in mind", x.count(4) + x.count(2), 0);
        due("no things", new RopesTieThemselves().lots(20, 1, 0), 0);
        refused(x, "lots(0, 0, 2)", () -> x.lots(0, 0, 2), -4);
        refused(x, "lots(21, 0, 2)", () -> x.lots(21, 0, 2), -6);
        refused(x, "lots(1, 0, 2)", () -> x.lots(1, 0, 2), -2);
        refused(x, "lots(20, 0, -1)", () -> x.lots(20, 0, -1), -2);
    }

    private static int lotsByHand(RopesTieThemselves x, int n, int z, boolean heights) {
        x.image();
        long seed = z & 0xffffffffL;
        int answer = 0;
        for (int i = 0; i < n; i++) {
            for (int thing = 0; thing < x.count(0); thing++) {
                seed = (seed * 1664525 + 1013904223) % 4294967296L;
                x.stones(thing, (int) (seed % 2147483648L / 256 % 10));
            }
            int sum = x.hours(10);
            answer += heights ? sum : Integer.bitCount(x.odd());
            x.on();
        }
        return answer;
    }

    private static void imageAndOn() {
        promise = 43;
        RopesTieThemselves x = told("tb310;tt011;r01;s02;u005;h07;");
        refused(x, "on() without an image", x::on, -3);
        x.row(1);
        letters(x, "tt");
        promise = 42;
        due("image()", x.image(), 7);
        List<Long> then = seen(x);
        x.hours(9);
        x.ties(1, 0);
        x.stones(0, 7);
        x.weighs(1, 33);
        x.turn(0, 4, 4);
        x.lifts(1, 20);
        x.row(2);
        letters(x, "000;tt001;");
        x.port();
        letters(x, "abc");
        promise = 43;
        due("on()", x.on(), 7);
        List<Long> back = seen(x);
        // The row and the letters go on as they are.
        due("count(6)", x.count(6), 2);
        due("count(7)", x.count(7), 3);
        x.clear();
        x.row(1);
        x.port();
        letters(x, "tt");
        due("all else is as then", seen(x).equals(then) ? 1 : 0, 1);
        due("things", back.get(0), 2);
        due("refusals go on", x.count(13), 1);
        x.stones(0, 5);
        x.cuts(0);
        due("on() again, the image stays", x.on(), 7);
        due("stones", x.thing(0, 3), 2);
        due("ropes", x.count(1), 1);
        x.hours(3);
        due("another image", x.image(), 10);
        x.hours(3);
        due("on() from it", x.on(), 10);
        RopesTieThemselves empty = new RopesTieThemselves();
        due("an image of nothing", empty.image(), 0);
        x.port();
        port(empty, "tt001;tt002;r01;h09;");
        due("on() to nothing", empty.on(), 0);
        due("no things", empty.count(0) + empty.count(1) + empty.count(2), 0);
    }

    private static void count() {
        promise = 44;
        RopesTieThemselves x = told("tp510;tt011;ti001;r01;r12;s02;s13;u005;u207;h12;");
        int[] high = heights(x);
        due("count(0)", x.count(0), 3);
        due("count(1)", x.count(1), 2);
        due("count(2)", x.count(2), 12);
        due("count(3)", x.count(3), high[0] + high[1] + high[2]);
        due("count(4)", x.count(4), 5);
        due("count(5)", x.count(5), 10 + 4 + 5 + 11 + 6 + 21);
        x.row(1);
        x.row(1);
        letters(x, "abc");
        due("count(6)", x.count(6), 2);
        due("count(7)", x.count(7), 3);
        for (int other : new int[] {-1, 8, 9, 10, 17, 100, Integer.MIN_VALUE, Integer.MAX_VALUE}) {
            due("count(" + other + ")", x.count(other), -9);
        }
        for (int what = 11; what <= 16; what++) {
            due("count(" + what + "), -9 is no refusal", x.count(what), 0);
        }
        x.thing(3, 0);
        x.thing(0, 6);
        x.thing(0, 7);
        x.on();
        x.on();
        x.on();
        x.hours(0);
        x.mean(9);
        x.wet(9, 9, 9, 9, 9, 9);
        x.hours(61);
        x.letter(256);
        due("count(11)", x.count(11), 2);
        due("count(12)", x.count(12), 3);
        due("count(13)", x.count(13), 3);
        due("count(14)", x.count(14), 1);
        due("count(15)", x.count(15), 0);
        due("count(16)", x.count(16), 2);
    }
}
