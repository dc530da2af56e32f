/** Promises 11 to 15: what is done by hand, how HOURS go by, and that it is undone. */
public final class DoingTest {
    public static void main(String[] args) {
        tied();
        moved();
        patched();
        hoursAndBounds();
        landed();
        hooksInAnHour();
        asTheHourBegan();
        winds();
        gusts();
        undone();
        theLastForty();
        Due.end("DoingTest");
    }

    private static void tied() {
        SilkRise x = Due.with("load a 5 2 10; load b 8 6 30; silk s 7 0; silk t 7 -1; hook h 5 1 1; ties = size + weight * up;");
        int[][] none = {{-1, 0}, {2, 0}, {0, -1}, {0, 2}, {Integer.MAX_VALUE, Integer.MIN_VALUE}};
        for (int[] pair : none) {
            Due.due("tie(" + pair[0] + ", " + pair[1] + ")", x.tie(pair[0], pair[1]), -1);
        }
        Due.due("tie(0, 0)", x.tie(0, 0), 7);
        Due.due("tie(0, 1) in the air", x.tie(0, 1), -2);
        Due.due("tie(1, 0) in the air", x.tie(1, 0), -2);
        Due.due("tie(0, 2) in the air, no such one", x.tie(0, 2), -1);
        Due.due("tie(2, 0) in the air, no such one", x.tie(2, 0), -1);
        Due.due("count(9)", x.count(9), 7);
        Due.due("count(11)", x.count(11), 1);
        Due.due("tie(1, 1)", x.tie(1, 1), 13);
        Due.due("count(9)", x.count(9), 20);
        Due.due("count(5)", x.count(5), 3);
        Due.due("count(4)", x.count(4), 0);
        Due.due("silk(1, 1)", x.silk(1, 1), 1);
        Due.due("silk(1, 2)", x.silk(1, 2), 1);
        Due.due("load(1, 5)", x.load(1, 5), 1);
        Due.due("load(1, 4)", x.load(1, 4), 0);
        Due.due("load(1, 0)", x.load(1, 0), 8);
        x.hours(2);
        Due.due("STORED", x.load(0, 3), 2);
        Due.due("tie(0, 0) STORED", x.tie(0, 0), -2);
        x.hours(8);
        Due.due("MISSED", x.load(1, 3), 3);
        Due.due("tie(1, 0) MISSED", x.tie(1, 0), -2);
        Due.due("count(9)", x.count(9), 20);
    }

    private static void moved() {
        SilkRise x = Due.with("hook h 5 1 1; hook g 5 1 1;");
        Due.due("move(0, 5)", x.move(0, 5), false);
        Due.due("move(0, 20)", x.move(0, 20), false);
        Due.due("move(0, -1)", x.move(0, -1), false);
        Due.due("move(2, 1)", x.move(2, 1), false);
        Due.due("move(-1, 1)", x.move(-1, 1), false);
        Due.due("count(11)", x.count(11), 0);
        Due.due("move(0, 19)", x.move(0, 19), true);
        Due.due("move(1, 0)", x.move(1, 0), true);
        Due.due("hook(0, 0)", x.hook(0, 0), 19);
        Due.due("hook(1, 0)", x.hook(1, 0), 0);
        Due.due("count(11)", x.count(11), 2);
    }

    private static void patched() {
        SilkRise x = Due.with("load a 5 1 1; silk s 7 2; silk t 7 -3; lift = 1;");
        Due.due("patch(0, true)", x.patch(0, true), true);
        Due.due("pull(0)", x.pull(0), 3);
        Due.due("patch beyond 3", x.patch(0, true), false);
        Due.due("patch beyond -3", x.patch(1, false), false);
        Due.due("patch(1, true)", x.patch(1, true), true);
        Due.due("pull(1)", x.pull(1), -2);
        Due.due("patch(2, true)", x.patch(2, true), false);
        Due.due("patch(-1, true)", x.patch(-1, true), false);
        Due.due("count(11)", x.count(11), 2);
        x.tie(0, 0);
        Due.due("patch in the air", x.patch(0, false), false);
        Due.due("count(11)", x.count(11), 3);
        x.hours(1);
        Due.due("it goes aside by 3", x.load(0, 0), 8);
    }

    private static void hoursAndBounds() {
        SilkRise x = Due.with("load a 1 9 9; silk s 1 0;");
        Due.due("hours(0)", x.hours(0), 0);
        Due.due("count(11)", x.count(11), 0);
        Due.due("hours(-1)", x.hours(-1), -1);
        Due.due("hours(73)", x.hours(73), -1);
        Due.due("hours(MIN)", x.hours(Integer.MIN_VALUE), -1);
        Due.due("count(11)", x.count(11), 0);
        Due.due("hours(72)", x.hours(72), 72);
        Due.due("hours(1)", x.hours(1), 73);
        Due.due("hours(0)", x.hours(0), 73);
        Due.due("count(3)", x.count(3), 73);
        Due.due("count(11)", x.count(11), 2);
    }

    private static void landed() {
        // It goes up by 3 in the first hour of a day, then down by 1 each hour.
        SilkRise x = Due.with("load a 17 1 5; silk s 1 1; hook h 19 0 1; lift = if hour < 1 then 3 else 0 - 1;");
        x.tie(0, 0);
        x.hours(3);
        Due.due("high", x.load(0, 4), 1);
        Due.due("X stays 19", x.load(0, 0), 19);
        x.hours(1);
        Due.due("LANDED", x.load(0, 3), 0);
        Due.due("its SILK", x.load(0, 5), -2);
        Due.due("its HOOK", x.load(0, 6), -2);
        Due.due("the SILK", x.silk(0, 1), -2);
        Due.due("X", x.load(0, 0), 19);
        Due.due("missed none", x.count(7), 0);
        Due.due("tie again", x.tie(0, 0), 1);
        Due.due("silk(0, 2)", x.silk(0, 2), 2);
        x.hours(1);
        Due.due("LANDED from 0", x.load(0, 3), 0);
        x.undo();
        x.undo();
        x.tie(0, 0);
        Due.due("hours() beyond the landing", x.hours(50), 54);
        Due.due("at the foot", x.count(4), 1);
        SilkRise flat = Due.with("load a 1 5 5; silk s 5 -3;");
        flat.tie(0, 0);
        flat.hours(1);
        Due.due("a LIFT of 0 LANDS", flat.load(0, 3), 0);
        Due.due("X stays 0", flat.load(0, 0), 0);
    }

    private static void hooksInAnHour() {
        String three = "load a 5 1 1; load b 5 1 2; load c 5 1 3; silk s 9 0; silk t 9 0; silk u 9 0; rim 8;";
        SilkRise x = Due.with(three + "hook h 7 2 1; hook g 4 1 1; hook f 6 1 1;");
        for (int i = 0; i < 3; i++) {
            x.tie(i, i);
        }
        x.hours(1);
        Due.due("the first of the nearest", x.load(0, 6), 1);
        Due.due("the next one", x.load(1, 6), 2);
        Due.due("the farthest", x.load(2, 6), 0);
        Due.due("earned", x.count(8), 6);
        x = Due.with(three + "hook h 7 2 1; hook g 8 2 9; hook f 5 0 1;");
        for (int i = 0; i < 3; i++) {
            x.tie(i, i);
        }
        x.hours(1);
        Due.due("the nearest", x.load(0, 6), 2);
        Due.due("within its REACH", x.load(1, 6), 0);
        Due.due("no HANDS left", x.load(2, 3), 3);
        Due.due("no HOOK", x.load(2, 6), -2);
        Due.due("hook(2, 3)", x.hook(2, 3), 1);
        Due.due("hook(0, 3)", x.hook(0, 3), 2);
        Due.due("hook(1, 3)", x.hook(1, 3), 0);
        Due.due("count(7)", x.count(7), 4);
        x = Due.with(three + "hook h 5 0 2;");
        for (int i = 0; i < 3; i++) {
            x.tie(2 - i, i);
        }
        x.hours(1);
        Due.due("two HANDS, LOAD by LOAD", x.count(6), 3);
        Due.due("the third", x.count(7), 4);
        x = Due.with(three + "hook h 5 0 1;");
        x.tie(0, 0);
        x.hours(1);
        x.tie(1, 0);
        x.hours(1);
        Due.due("HANDS in each hour", x.count(6), 3);
    }

    private static void asTheHourBegan() {
        SilkRise x = Due.with("load a 5 1 1; load b 5 1 2; silk s 9 0; silk t 9 0; hook h 5 0 2; rim 4;"
                + "lift = up * 2; pays = price * 10 + stored * 3 + up + hour;");
        x.tie(0, 0);
        x.tie(1, 1);
        x.hours(1);
        Due.due("both rise by 4", x.count(6), 3);
        Due.due("PAYS is as the hour began", x.count(8), 12 + 22);
        x = Due.with("load a 5 1 1; load b 5 2 2; silk s 9 0; silk t 9 0; rim 6; lift = 4 - weight + stored * 9; hook h 5 0 1;");
        x.tie(0, 0);
        x.tie(1, 1);
        x.hours(2);
        Due.due("the first one is hooked", x.load(0, 3), 2);
        Due.due("the second one rose by 4 then", x.load(1, 4), 4);
        x.hours(1);
        Due.due("the second one is hooked", x.load(1, 3), 2);
    }

    private static void winds() {
        // WIND by how high and across it was as the hour began.
        SilkRise x = Due.with("load a 2 1 1; silk s 4 1; wind = if high < 1 then 3 else if across < 6 then 1 else 0 - 2;");
        x.tie(0, 0);
        x.hours(1);
        Due.due("2 + 1 + 3", x.load(0, 0), 6);
        x.hours(1);
        Due.due("6 + 1 - 2", x.load(0, 0), 5);
        x.hours(1);
        Due.due("5 + 1 + 1", x.load(0, 0), 7);
        // X is held behind PULL and WIND together.
        x = Due.with("load a 1 1 1; silk s 4 -3; wind = 3;");
        x.tie(0, 0);
        x.hours(1);
        Due.due("1 - 3 + 3", x.load(0, 0), 1);
    }

    private static void gusts() {
        for (int wind = -2; wind <= 2; wind++) {
            SilkRise x = Due.with("load a 9 1 1; silk s 2 0; rim 99; gusts 50; seed 77; wind = 3 - " + (3 - wind) + ";");
            x.tie(0, 0);
            int at = 9;
            for (int hour = 0; hour < 20; hour++) {
                boolean gust = ThingsTest.lot(77, 4 * hour) < 50;
                Due.due("GUST", x.count(14), gust ? 1 : 0);
                at += wind + (gust ? Integer.signum(wind) : 0);
                at = Math.max(0, Math.min(19, at));
                x.hours(1);
                Due.due("X by WIND " + wind + " behind " + (hour + 1), x.load(0, 0), at);
            }
        }
    }

    private static int[] all(SilkRise x) {
        int[] all = new int[100];
        int n = 0;
        for (int i = 0; i < 2; i++) {
            for (int what = 0; what < 7; what++) {
                all[n++] = x.load(i, what);
            }
            for (int what = 0; what < 3; what++) {
                all[n++] = x.silk(i, what);
            }
            for (int what = 0; what < 4; what++) {
                all[n++] = x.hook(i, what);
            }
            all[n++] = x.pull(i);
        }
        for (int what = 3; what < 10; what++) {
            all[n++] = x.count(what);
        }
        return all;
    }

    private static void same(String call, int[] got, int[] want) {
        for (int i = 0; i < want.length; i++) {
            Due.due(call + " [" + i + "]", got[i], want[i]);
        }
    }

    private static void undone() {
        SilkRise x = Due.with("load a 5 2 10; load b 8 6 30; silk s 7 1; silk t 8 -1; hook h 7 1 1; hook g 1 1 1; ties = 3;");
        Due.due("undo() of nothing", x.undo(), false);
        int[] first = all(x);
        x.tie(0, 0);
        int[] second = all(x);
        x.hours(2);
        int[] third = all(x);
        Due.due("hooked", x.count(6), 1);
        x.patch(1, false);
        int[] fourth = all(x);
        x.move(1, 12);
        int[] fifth = all(x);
        x.tie(1, 1);
        x.hours(0);
        x.move(1, 12);
        x.tie(1, 1);
        Due.due("count(11)", x.count(11), 5);
        Due.due("undo() tie", x.undo(), true);
        same("behind undo() of tie", all(x), fifth);
        Due.due("undo() move", x.undo(), true);
        same("behind undo() of move", all(x), fourth);
        Due.due("undo() patch", x.undo(), true);
        same("behind undo() of patch", all(x), third);
        Due.due("undo() hours", x.undo(), true);
        same("behind undo() of hours", all(x), second);
        Due.due("undo() tie", x.undo(), true);
        same("behind undo() of all", all(x), first);
        Due.due("undo() no more", x.undo(), false);
        Due.due("count(11)", x.count(11), 0);
    }

    private static void theLastForty() {
        SilkRise x = Due.with("hook h 0 1 1;");
        for (int i = 1; i <= 45; i++) {
            Due.due("move", x.move(0, i % 20), true);
            Due.due("count(11)", x.count(11), Math.min(i, 40));
        }
        for (int i = 44; i >= 5; i--) {
            Due.due("undo()", x.undo(), true);
            Due.due("back at", x.hook(0, 0), i % 20);
            Due.due("count(11)", x.count(11), i - 5);
        }
        Due.due("undo() the 41st", x.undo(), false);
        Due.due("stays at", x.hook(0, 0), 5);
        x.move(0, 9);
        Due.due("undo()", x.undo(), true);
        Due.due("back at", x.hook(0, 0), 5);
    }
}
