/** Promises 21 to 26: FILL, FEWEST, WAIT, IN n HOURS and YEAR. */
public final class PlansTest {
    public static void main(String[] args) {
        fill();
        fillAlike();
        fillAsOfNow();
        fewest();
        waits();
        inHours();
        year();
        Due.end("PlansTest");
    }

    private static void fills(String why, SilkRise x, int... due) {
        Due.due(why + ": fill(-1)", x.fill(-1), due[0]);
        for (int load = 1; load < due.length; load++) {
            Due.due(why + ": fill(" + (load - 1) + ")", x.fill(load - 1), due[load]);
        }
        Due.due(why + ": fill(-2)", x.fill(-2), -100000);
        Due.due(why + ": fill of one more", x.fill(due.length - 1), -100000);
        Due.due(why + ": fill(MIN)", x.fill(Integer.MIN_VALUE), -100000);
    }

    private static void fill() {
        fills("nothing", new SilkRise(), 0);
        fills("no SILK", Due.with("load a 5 1 9;"), 0, -2);
        // a is hooked by both, b by the big one alone: a takes the small one though each is as good for it.
        SilkRise x = Due.with("load a 5 1 9; load b 5 5 20; silk s 9 0; silk t 3 0; hook h 5 0 1; ties = 1;");
        fills("one for each", x, 27, 1, 0);
        x.tie(0, 1);
        fills("one in the air", x, 19, -2, 0);
        x.hours(5);
        fills("one STORED", x, 19, -2, 0);
        x.tie(1, 0);
        x.hours(3);
        fills("all STORED", x, 0, -2, -2);
        // TIES takes more than is earned.
        fills("too dear", Due.with("load a 5 1 9; silk s 9 0; hook h 5 0 1; ties = 10;"), 0, -2);
        fills("as dear: a SILK is ahead of none", Due.with("load a 5 1 9; silk s 9 0; hook h 5 0 1; ties = 9;"), 0, 0);
        fills("MISSED", Due.with("load a 6 1 9; silk s 9 0; hook h 5 0 1;"), 0, -2);
        fills("the dearer of two", Due.with("load a 5 1 9; load b 5 1 11; silk s 9 0; hook h 5 0 1;"), 10, -2, 0);
        fills("TIES by SIZE", Due.with("load a 5 1 9; silk s 9 0; silk t 5 0; silk u 7 0; hook h 5 0 1; ties = size;"), 4, 1);
        // HANDS do not count: each FLIGHT is alone.
        fills("five of seven", Due.with("load a 5 1 9; load b 5 1 3; load c 5 1 8; load d 5 1 2; load e 5 1 7; load f 5 1 5; load g 5 1 6;"
                + "silk s 9 0; silk t 9 0; silk u 9 0; silk v 9 0; silk w 9 0; hook h 5 0 1; ties = 1;"),
                30, 0, -2, 1, -2, 2, 3, 4);
    }

    private static void fillAlike() {
        String two = "load a 5 1 9; load b 5 1 9; silk s 9 0; silk t 9 0; hook h 5 0 1;";
        fills("the first SILK for the first LOAD", Due.with(two), 16, 0, 1);
        SilkRise x = Due.with("load a 5 1 9; silk s 9 0; hook h 5 0 1; rim 8; wind = if hour < 1 then 0 else 1;");
        fills("begun now", x, 8, 0);
        x.hours(1);
        fills("begun now", x, 0, -2);
        fills("one SILK: the first LOAD has it", Due.with("load a 5 1 9; load b 5 1 9; silk s 9 0; hook h 5 0 1;"), 8, 0, -2);
        fills("none last", Due.with("load a 5 1 1; load b 5 1 1; load c 5 1 1; silk s 9 0; silk t 9 0; hook h 5 0 1;"), 0, 0, 1, -2);
    }

    private static void fillAsOfNow() {
        // TIES counts those in the air now; up is 1 in each FLIGHT.
        SilkRise x = Due.with("load a 5 1 50; load b 5 1 60; load c 5 1 70; silk s 9 0; silk t 9 0; silk u 9 0; hook h 5 0 1; rim 40;"
                + "ties = 10 * up + hour; lift = if up < 2 then 8 else 0 - 1;");
        fills("none in the air", x, 180, 0, 1, 2);
        x.tie(1, 1);
        fills("one in the air", x, 100, 0, -2, 2);
        x.hours(3);
        fills("hour 3", x, 94, 0, -2, 2);
    }

    private static void fewest() {
        Due.due("nothing", new SilkRise().fewest(), 0);
        String apart = "load a 1 1 9; load b 5 1 9; load c 9 1 9; load d 13 1 9; load e 17 1 9; load f 19 1 1; silk s 9 0;"
                + "hook ha 1 0 1; hook hb 5 0 1; hook hc 9 0 1; hook hd 13 0 1; hook he 17 0 1;";
        SilkRise all = Due.with(apart);
        Due.due("all five", all.fewest(), 31);
        all.move(4, 19);
        Due.due("all five, another LOAD", all.fewest(), 31);
        all.move(4, 18);
        Due.due("four", all.fewest(), 15);
        SilkRise now = Due.with("load a 5 1 9; silk s 9 0; hook h 5 0 1; hook g 6 0 1; wind = if hour < 1 then 0 else 1;");
        Due.due("begun now, in two hours", now.fewest(), 2);
        now = Due.with("load a 5 1 9; silk s 9 0; hook h 5 0 1; hook g 6 0 1; wind = if hour < 1 then 0 else 1; rim 8;");
        Due.due("begun now", now.fewest(), 1);
        now.hours(1);
        Due.due("begun now", now.fewest(), 2);
        SilkRise x = Due.with("load a 5 1 9; load b 9 1 9; load c 13 1 9; silk s 9 0; hook h 5 0 1; hook g 7 2 1; hook f 9 0 1; hook e 11 2 1;");
        Due.due("two of four", x.fewest(), 1 | 8);
        x.move(3, 13);
        Due.due("moved", x.fewest(), 2 | 8);
        x.move(1, 0);
        Due.due("three of four", x.fewest(), 1 | 4 | 8);
        x.move(2, 8);
        Due.due("b would be MISSED", x.fewest(), 1 | 8);
        x = Due.with("load a 5 1 9; silk s 9 0; hook h 5 0 1; hook g 5 1 1;");
        Due.due("the least bits", x.fewest(), 1);
        x = Due.with("load a 5 1 9; load b 9 1 9; silk s 9 0; hook h 5 0 1; hook g 9 0 1; hook f 7 2 1; hook e 6 3 1;");
        Due.due("as few as can be", x.fewest(), 4);
        x.tie(0, 0);
        Due.due("no SILK at the foot", x.fewest(), 0);
        // By one SILK it comes to 5, by the other one to 7.
        x = Due.with("load a 5 1 9; load b 5 1 9; silk s 9 0; silk t 9 1; hook h 5 0 1; hook g 7 0 1; rim 10;");
        Due.due("by any SILK", x.fewest(), 1);
        x.tie(0, 0);
        Due.due("by the SILK at the foot", x.fewest(), 2);
        x.hours(1);
        Due.due("LOADS at the foot alone", x.fewest(), 2);
        x.hours(1);
        x.tie(1, 0);
        Due.due("no LOAD at the foot", x.fewest(), 0);
    }

    private static void waits() {
        SilkRise x = Due.with("load a 5 1 20; load b 5 1 20; silk s 9 0; silk t 9 0; hook h 5 0 1; rim 8; ties = if hour < 4 then 9 else 2;"
                + "pays = price + hour * up + stored;");
        // By 0: 20 - 9; by 4: 24 - 2 - 4; later PAYS is 1 more for each w.
        Due.due("waits(0, 0, 0)", x.waits(0, 0, 0), 4);
        Due.due("waits(0, 0, 1)", x.waits(0, 0, 1), 18);
        x.tie(1, 1);
        Due.due("one in the air", x.waits(0, 0, 1), 18);
        x.hours(1);
        Due.due("one STORED", x.waits(0, 0, 0), 3);
        Due.due("one STORED", x.waits(0, 0, 1), 20 + 4 + 1 - 2 - 3);
        int[][] none = {{-1, 0, 0}, {2, 0, 0}, {0, -1, 0}, {0, 2, 0}, {0, 0, -1}, {0, 0, 2}, {1, 0, 0}};
        for (int[] a : none) {
            Due.due("no such wait", x.waits(a[0], a[1], a[2]), -100000);
        }
        x.tie(0, 0);
        Due.due("LOAD in the air", x.waits(0, 1, 0), -100000);
        x = Due.with("load a 5 1 20; load b 5 1 1; silk s 9 0; silk t 9 0; ties = 7; lift = 1;");
        Due.due("not hooked", x.waits(0, 0, 0), 0);
        Due.due("not hooked", x.waits(0, 0, 1), -7);
        x.tie(0, 0);
        Due.due("SILK in the air", x.waits(1, 0, 0), -100000);
        // Nothing is in the air for TIES, though one is now.
        x = Due.with("load a 5 1 20; load b 5 1 50; silk s 9 0; silk t 9 0; hook h 5 0 1; rim 99; ties = 5 + up * 50;");
        x.tie(0, 0);
        Due.due("nothing in the air then", x.waits(1, 1, 1), 45);
        x = Due.with("load a 5 1 9; silk s 9 0; hook h 5 0 1; rim 8; pays = if day < 1 then 0 else 50;");
        Due.due("the day's first hour", x.waits(0, 0, 0), 24);
        Due.due("the day's first hour", x.waits(0, 0, 1), 25);
        x = Due.with("load a 5 1 9; silk s 9 0; hook h 5 0 1; rim 8; pays = if hour < 1 then 5 else 9;");
        Due.due("w 1", x.waits(0, 0, 0), 1);
        Due.due("w 1", x.waits(0, 0, 1), 7);
        x = Due.with("load a 5 1 9; silk s 9 0; hook h 5 0 1; rim 8; pays = hour; ties = 0;");
        Due.due("of alike ones the fewest", x.waits(0, 0, 0), 0);
        Due.due("of alike ones the fewest", x.waits(0, 0, 1), 0);
    }

    private static void inHours() {
        SilkRise x = Due.with("load a 5 1 9; load b 15 2 8; load c 2 2 2; silk s 6 1; silk t 4 0; hook h 7 0 1; rim 10; gusts 50; seed 3;"
                + "wind = if across < 10 then 0 else 0 - 1;");
        x.tie(0, 0);
        x.tie(1, 1);
        int[][] others = {{-1, 0, 0}, {3, 0, 0}, {0, -1, 0}, {0, 73, 0}, {0, 0, -1}, {0, 0, 3}};
        for (int[] a : others) {
            Due.due("no such then", x.then(a[0], a[1], a[2]), -1);
        }
        Due.due("earns(-1)", x.earns(-1), -1);
        Due.due("earns(73)", x.earns(73), -1);
        Due.due("then(0, 1, 2)", x.then(0, 1, 2), 5);
        Due.due("then(0, 1, 1)", x.then(0, 1, 1), 6);
        Due.due("then(0, 2, 0)", x.then(0, 2, 0), 2);
        Due.due("then(0, 2, 1)", x.then(0, 2, 1), 7);
        Due.due("then(0, 2, 2)", x.then(0, 2, 2), 0);
        Due.due("earns(1)", x.earns(1), 0);
        Due.due("earns(2)", x.earns(2), 9);
        Due.due("then(1, 72, 0)", x.then(1, 72, 0), 3);
        Due.due("then(2, 72, 0)", x.then(2, 72, 0), 0);
        Due.due("nothing happens", x.count(3), 0);
        Due.due("nothing done", x.count(11), 2);
        for (int n = 0; n <= 8; n++) {
            int[] how = new int[9];
            int earned = x.earns(n);
            for (int i = 0; i < 9; i++) {
                how[i] = x.then(i / 3, n, i % 3);
            }
            int ahead = x.count(8);
            x.hours(n);
            for (int load = 0; load < 3; load++) {
                Due.due("how it is in " + n, how[load * 3], x.load(load, 3));
                Due.due("X in " + n, how[load * 3 + 1], x.load(load, 0));
                Due.due("how high in " + n, how[load * 3 + 2], x.load(load, 4));
            }
            Due.due("earned in " + n, earned, x.count(8) - ahead);
            if (n > 0) {
                x.undo();
            }
        }
        x.hours(2);
        Due.due("earned more", x.earns(5), 0);
    }

    private static void year() {
        String text = "load a 3 1 9; load b 9 2 8; silk s 3 0; silk t 4 0; hook h 5 0 1; rim 10; gusts 30; wind = if across < 9 then 1 - hour / 2"
                + " else 0; seed ";
        for (int load = 0; load < 2; load++) {
            for (int s = 1; s <= 20; s++) {
                int due = 0;
                for (int seed = 9990; seed < 9990 + s; seed++) {
                    int[] at = {3, 9};
                    at[0] += 1 + (ThingsTest.lot(seed, 0) < 30 ? 1 : 0);
                    at[0] += 1 + (ThingsTest.lot(seed, 4) < 30 ? 1 : 0);
                    at[0] += 0;
                    at[0] += 0;
                    at[0] -= 1 + (ThingsTest.lot(seed, 16) < 30 ? 1 : 0);
                    due += at[load] == 5 ? 1 : 0;
                }
                SilkRise x = Due.with(text + "9990;");
                x.tie(0, 0);
                x.tie(1, 1);
                Due.due("year(" + load + ", 5, " + s + ")", x.year(load, 5, s), due);
                Due.due("year(" + load + ", 4, " + s + ")", x.year(load, 4, s), 0);
                Due.due("nothing happens", x.count(3), 0);
            }
        }
        SilkRise x = Due.with(text + "5;");
        int[][] none = {{-1, 1, 1}, {2, 1, 1}, {0, -1, 1}, {0, 73, 1}, {0, 1, 0}, {0, 1, 21}};
        for (int[] a : none) {
            Due.due("no such year", x.year(a[0], a[1], a[2]), -1);
        }
        Due.due("at the foot", x.year(0, 72, 20), 0);
        Due.due("0 HOURS", x.year(0, 0, 20), 0);
        x = Due.with("load a 5 1 9; silk s 6 0; hook h 5 0 1; rim 5;");
        x.tie(0, 0);
        Due.due("each SEED", x.year(0, 1, 20), 20);
        x.hours(1);
        Due.due("STORED already", x.year(0, 0, 7), 7);
    }
}
