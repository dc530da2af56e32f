/** Promises 16 to 20: FLIGHT, SOON, PATCHES, the nearest HOOK, LIFTS. */
public final class FlightTest {
    public static void main(String[] args) {
        flights();
        noSuchFlights();
        alone();
        soon();
        patches();
        near();
        lifts();
        Due.end("FlightTest");
    }

    private static void flight(SilkRise x, int load, int silk, int w, int... due) {
        for (int what = 0; what < 4; what++) {
            Due.due("flight(" + load + ", " + silk + ", " + w + ", " + what + ")", x.flight(load, silk, w, what), due[what]);
        }
    }

    private static void flights() {
        SilkRise x = Due.with("load a 5 2 10; load b 8 6 30; load c 0 1 1; silk s 7 0; silk t 4 -1; silk u 2 3; hook h 5 1 1;"
                + " hook g 3 0 2; rim 10; wind = high / 6; gusts 100;");
        flight(x, 0, 0, 0, 2, 1, 0, 5);
        flight(x, 0, 1, 0, 5, 2, -2, 2);
        flight(x, 1, 0, 0, 10, 2, -2, 12);
        flight(x, 1, 1, 0, 1, 3, -2, 7);
        flight(x, 2, 2, 24, 10, 2, -2, 19);
        Due.due("nothing happens", x.count(5), 0);
        Due.due("no hour", x.count(3), 0);
        Due.due("nothing done", x.count(11), 0);
        // It stays at 3 for ever: not over in 48.
        x = Due.with("load a 5 2 10; silk s 7 1; lift = if high < 3 then 3 else 0; rim 4;");
        flight(x, 0, 0, 0, 0, 0, -2, 19);
        x = Due.with("load a 5 2 10; silk s 7 0; lift = 1; rim 48; hook h 5 0 1;");
        flight(x, 0, 0, 0, 48, 1, 0, 5);
        x = Due.with("load a 5 2 10; silk s 7 0; lift = 1; rim 49; hook h 5 0 1;");
        flight(x, 0, 0, 0, 0, 0, -2, 5);
        x = Due.with("load a 5 2 10; silk s 7 0; lift = if hour < 20 then 0 else if day < 1 then 5 else 1; rim 6; hook h 5 0 1;");
        flight(x, 0, 0, 0, 1, 3, -2, 5);
        flight(x, 0, 0, 20, 2, 1, 0, 5);
        // A LIFT of 0 above the foot keeps it there till the next day's 20th hour.
        flight(x, 0, 0, 23, 22, 1, 0, 5);
        x.hours(23);
        flight(x, 0, 0, 0, 22, 1, 0, 5);
        flight(x, 0, 0, 21, 26, 1, 0, 5);
        x = Due.with("load a 5 2 10; silk s 7 -3; rim 10; hook h 0 0 1;");
        flight(x, 0, 0, 0, 2, 1, 0, 0);
        x = Due.with("load a 15 2 10; silk s 7 3; rim 10; hook h 19 0 1;");
        flight(x, 0, 0, 0, 2, 1, 0, 19);
        x = Due.with("load a 5 2 10; silk s 7 0; rim 10; hook h 9 5 1; hook g 7 2 1; hook f 3 2 1;");
        flight(x, 0, 0, 0, 2, 1, 1, 5);
        x.move(1, 8);
        flight(x, 0, 0, 0, 2, 1, 2, 5);
        x.patch(0, true);
        flight(x, 0, 0, 0, 2, 1, 1, 7);
    }

    private static void noSuchFlights() {
        SilkRise x = Due.with("load a 5 2 10; load b 5 2 10; silk s 7 0; silk t 7 0; hook h 5 1 1;");
        int[][] none = {{-1, 0, 0, 0}, {2, 0, 0, 0}, {0, -1, 0, 0}, {0, 2, 0, 0}, {0, 0, -1, 0}, {0, 0, 25, 0}, {0, 0, 0, -1}, {0, 0, 0, 4}};
        for (int[] a : none) {
            Due.due("no flight", x.flight(a[0], a[1], a[2], a[3]), -1);
        }
        x.tie(0, 0);
        for (int[] a : none) {
            Due.due("no flight, NONE ahead of -2", x.flight(a[0], a[1], a[2], a[3]), -1);
        }
        for (int what = 0; what < 4; what++) {
            Due.due("LOAD in the air", x.flight(0, 1, 0, what), -2);
            Due.due("SILK in the air", x.flight(1, 0, 0, what), -2);
        }
        x.hours(2);
        Due.due("LOAD is STORED", x.flight(0, 1, 0, 1), -2);
        Due.due("both at the foot", x.flight(1, 0, 0, 1), 1);
    }

    private static void alone() {
        // up is 1 in a FLIGHT whatever else flies; stored is as now.
        SilkRise x = Due.with("load a 5 2 10; load b 5 2 10; load c 5 1 1; silk s 7 0; silk t 7 0; silk u 7 0;"
                + "lift = if up < 2 then 5 + stored else 0 - 1; hook h 5 1 9;");
        Due.due("alone", x.flight(0, 0, 0, 0), 2);
        x.tie(1, 1);
        Due.due("alone with one in the air", x.flight(0, 0, 0, 0), 2);
        x.hours(2);
        Due.due("stored", x.count(6), 2);
        x = Due.with("load a 5 2 10; load b 5 2 10; silk s 7 0; silk t 7 0; lift = 3 + stored * 2; hook h 5 1 9; rim 10;");
        Due.due("3 an hour", x.flight(0, 0, 0, 0), 4);
        x.tie(1, 1);
        x.hours(4);
        Due.due("5 an hour", x.flight(0, 0, 0, 0), 2);
    }

    private static void soon() {
        SilkRise x = Due.with("load a 5 1 10; load b 5 1 10; silk s 7 0; silk t 7 0; hook h 5 0 1; hook g 6 0 1; hook f 19 0 1; rim 5;"
                + "lift = if hour < 3 then 0 else 5; wind = if hour < 5 then 0 else 1;");
        Due.due("soon(0, 0, 0)", x.soon(0, 0, 0), 3);
        Due.due("soon(0, 0, 1)", x.soon(0, 0, 1), 5);
        Due.due("soon(0, 0, 2)", x.soon(0, 0, 2), -2);
        int[][] none = {{-1, 0, 0}, {2, 0, 0}, {0, -1, 0}, {0, 2, 0}, {0, 0, -1}, {0, 0, 3}};
        for (int[] a : none) {
            Due.due("no such soon", x.soon(a[0], a[1], a[2]), -1);
        }
        x.hours(4);
        Due.due("soon(0, 0, 0) at 4", x.soon(0, 0, 0), 0);
        Due.due("soon(0, 0, 1) at 4", x.soon(0, 0, 1), 1);
        x.hours(1);
        Due.due("soon(0, 0, 0) at 5", x.soon(0, 0, 0), 22);
        x.tie(0, 0);
        Due.due("LOAD in the air", x.soon(0, 1, 0), -1);
        Due.due("SILK in the air", x.soon(1, 0, 0), -1);
        x = Due.with("load a 5 1 10; silk s 7 0; hook h 5 0 1; rim 5; lift = if day < 1 then 0 else 5;");
        Due.due("w 24", x.soon(0, 0, 0), 24);
        x = Due.with("load a 5 1 10; silk s 7 0; hook h 5 0 1; rim 5; lift = if day * 24 + hour < 25 then 0 else 5;");
        Due.due("not in 24", x.soon(0, 0, 0), -2);
        // It is hooked by the nearer one, whenever.
        x = Due.with("load a 5 1 10; silk s 7 0; hook h 6 1 1; hook g 5 0 1; rim 5;");
        Due.due("by the other one", x.soon(0, 0, 0), -2);
        Due.due("by that one", x.soon(0, 0, 1), 0);
    }

    private static void patches() {
        SilkRise x = Due.with("load a 9 1 10; load b 9 1 10; silk s 6 1; silk t 6 0; hook h 9 0 1; hook g 13 1 1; hook f 2 1 1; rim 10;");
        // Behind 2 hours it is at 9 + 2 * PULL: 3 5 7 9 11 13 15.
        Due.due("patches(0, 0, 0)", x.patches(0, 0, 0), 0);
        Due.due("patches(0, 0, 1)", x.patches(0, 0, 1), 2);
        Due.due("patches(0, 0, 2)", x.patches(0, 0, 2), -3);
        Due.due("nothing is patched", x.pull(0), 1);
        x.move(0, 0);
        Due.due("patches(0, 0, 0) none", x.patches(0, 0, 0), -100);
        int[][] none = {{-1, 0, 0}, {2, 0, 0}, {0, -1, 0}, {0, 2, 0}, {0, 0, -1}, {0, 0, 3}};
        for (int[] a : none) {
            Due.due("no such patches", x.patches(a[0], a[1], a[2]), -1000);
        }
        x.tie(0, 0);
        Due.due("LOAD in the air", x.patches(0, 1, 0), -1000);
        Due.due("SILK in the air", x.patches(1, 0, 0), -1000);
        x = Due.with("load a 9 1 10; silk s 6 0; hook h 9 0 1; wind = if hour < 1 then 2 else 0; rim 5;");
        Due.due("begun now", x.patches(0, 0, 0), -2);
        x.hours(1);
        Due.due("begun now", x.patches(0, 0, 0), 0);
        // All seven are looked at, from either end.
        x = Due.with("load a 9 1 10; silk s 6 3; silk t 6 -3; hook h 6 0 1; hook g 12 0 1; rim 5;");
        Due.due("from 3 to -3", x.patches(0, 0, 0), -3);
        Due.due("from -3 to 3", x.patches(0, 1, 1), 3);
        // -1 and 1 bring it there, with 0 the other one hooks it: the lesser one of two.
        x = Due.with("load a 9 1 10; silk s 6 0; hook h 9 1 1; hook g 9 2 1; rim 10;");
        Due.due("the lesser PULL", x.patches(0, 0, 1), -1);
        x.patch(0, true);
        Due.due("its own", x.patches(0, 0, 1), 1);
        x.patch(0, true);
        Due.due("the nearest", x.patches(0, 0, 1), 1);
    }

    private static void near() {
        SilkRise x = Due.with("hook h 5 1 1; hook g 8 2 1; hook f 2 5 1;");
        int[] due = {2, 2, 2, 2, 0, 0, 0, 1, 1, 1, 1, -2, -2};
        for (int at = 0; at < due.length; at++) {
            Due.due("near(" + at + ")", x.near(at), due[at]);
        }
        Due.due("near(19)", x.near(19), -2);
        Due.due("near(20)", x.near(20), -1);
        Due.due("near(-1)", x.near(-1), -1);
        x = Due.with("hook h 5 5 1; hook g 9 5 1; hook f 5 5 1;");
        Due.due("the first of alike ones", x.near(7), 0);
        Due.due("the first of alike ones", x.near(5), 0);
        x.move(0, 19);
        Due.due("the nearest as moved", x.near(5), 2);
        Due.due("the first of alike ones", x.near(7), 1);
    }

    private static void lifts() {
        SilkRise x = Due.with("load a 9 1 10; silk s 6 1; silk t 2 1; silk u 1 0; rim 10; wind = if 17 < across then 0 - 1 else 0;"
                + "lift = if across < 15 then size - weight else 0 - 9;");
        Due.due("lifts(0, 0)", x.lifts(0, 0), 5);
        Due.due("lifts(1, 0)", x.lifts(1, 0), 1);
        // From 11 on it is at 15 behind 4 hours, by then 10 high.
        Due.due("lifts(0, 11)", x.lifts(0, 11), 3);
        Due.due("lifts(0, 15)", x.lifts(0, 15), -2);
        Due.due("lifts(2, 0)", x.lifts(2, 0), -2);
        Due.due("lifts(0, 19)", x.lifts(0, 19), -2);
        Due.due("lifts(0, 20)", x.lifts(0, 20), -1);
        Due.due("lifts(0, -1)", x.lifts(0, -1), -1);
        Due.due("lifts(3, 0)", x.lifts(3, 0), -1);
        Due.due("lifts(-1, 0)", x.lifts(-1, 0), -1);
        x.tie(0, 0);
        Due.due("lifts(0, 0) in the air", x.lifts(0, 0), -1);
        Due.due("lifts(1, 0)", x.lifts(1, 0), 1);
        x = Due.with("silk s 9 0; rim 1; hook h 3 0 1;");
        Due.due("hooked or not", x.lifts(0, 3), 8);
        Due.due("hooked or not", x.lifts(0, 4), 8);
        x = Due.with("silk s 9 0; rim 96; lift = if hour < 12 then size - weight else 2;");
        // 24 hours by 9 - 7, 24 hours by 2: just 96; of 8 it would be 72.
        Due.due("in 48 hours", x.lifts(0, 4), 7);
        x = Due.with("silk s 9 0; rim 49; lift = 1;");
        Due.due("not in 48 hours", x.lifts(0, 4), -2);
        x = Due.with("silk s 9 0; rim 48; lift = if weight < 10 then 1 else 0;");
        Due.due("just in 48 hours", x.lifts(0, 4), 9);
    }
}
