/** Each boundary of promises 27 to 30: what is TOLD, PULLS, SURE. */
public final class EdgesToldTest {
    public static void main(String[] args) {
        toldNumbered();
        toldTwenty();
        toldNoSuchOnes();
        toldStays();
        forgotten();
        knownByNone();
        knownByTheFirst();
        noSuchK();
        noSuchWhat();
        eachPull();
        heldAtTheWalls();
        notOverByThen();
        upTo9Hours();
        asItIsAsked();
        alone();
        sure();
        Due.end("EdgesToldTest");
    }

    private static void known(String why, SilkRise x, int k, int which) {
        Due.due(why + ": pulls(" + k + ", 0)", x.pulls(k, 0), Integer.bitCount(which));
        Due.due(why + ": pulls(" + k + ", 1)", x.pulls(k, 1), which);
        int sure = Integer.bitCount(which) == 1 ? Integer.numberOfTrailingZeros(which) - 3 : -100;
        Due.due(why + ": sure(" + k + ")", x.sure(k), sure);
    }

    private static void toldNumbered() {
        Due.says("27: It is TOLD (SIZE, WEIGHT 1 .. 9, X, X' 0 .. 19, n 1 .. 9): its number");
        int[][] least = {{1, 1, 0, 1, 0}, {9, 1, 0, 1, 0}, {1, 9, 0, 1, 0}, {1, 1, 19, 1, 0}, {1, 1, 0, 9, 0}, {1, 1, 0, 1, 19}, {9, 9, 19, 9, 19}};
        SilkRise x = new SilkRise();
        for (int i = 0; i < least.length; i++) {
            int[] a = least[i];
            Due.due("tell() " + i, x.tell(a[0], a[1], a[2], a[3], a[4]), i);
            Due.due("count(12)", x.count(12), i + 1);
        }
        Due.due("the same again", x.tell(9, 9, 19, 9, 19), 7);
    }

    private static void toldTwenty() {
        Due.says("27: NONE, and nothing happens: 20 are there");
        SilkRise x = Due.with("rim 99;");
        for (int i = 0; i < 20; i++) {
            Due.due("tell() " + i, x.tell(9, 1, 9, 1, 10), i);
        }
        known("20 alike ones", x, 20, 1 << 4);
        int[] ahead = Due.seen(x);
        Due.due("tell() a 21st", x.tell(9, 1, 9, 1, 11), -1);
        Due.due("tell() a 22nd", x.tell(9, 1, 9, 1, 12), -1);
        Due.asSeen("a 21st", x, ahead);
        known("20 alike ones still", x, 20, 1 << 4);
        Due.due("pulls(21, 0)", x.pulls(21, 0), -1);
        Due.due("forget()", x.forget(), 20);
        Due.due("tell() again", x.tell(9, 1, 9, 1, 11), 0);
        known("the new one", x, 1, 1 << 5);
    }

    private static void toldNoSuchOnes() {
        Due.says("27: NONE, and nothing happens: no such ones");
        SilkRise x = new SilkRise();
        int[] least = {1, 1, 0, 1, 0};
        int[] most = {9, 9, 19, 9, 19};
        for (int part = 0; part < 5; part++) {
            int[] values = {least[part] - 1, most[part] + 1, -1, -2, 20, 100, Integer.MIN_VALUE, Integer.MAX_VALUE};
            for (int value : values) {
                int[] a = {5, 5, 5, 5, 5};
                a[part] = value;
                Due.due("tell() with " + value + " at " + part, x.tell(a[0], a[1], a[2], a[3], a[4]), -1);
            }
        }
        Due.due("count(12)", x.count(12), 0);
        Due.due("pulls(1, 0)", x.pulls(1, 0), -1);
        Due.due("tell() the first", x.tell(5, 5, 5, 5, 5), 0);
    }

    private static void toldStays() {
        Due.says("27: TOLD till it is forgotten or a text is read");
        SilkRise x = Due.with("load a 5 1 1; silk s 9 0; rim 99;");
        x.hold(0);
        x.tell(9, 1, 9, 1, 11);
        x.tie(0, 0);
        x.hours(3);
        x.undo();
        x.undo();
        x.restore(0);
        Due.due("count(12)", x.count(12), 1);
        known("it stays", x, 1, 1 << 5);
        Due.due("a FAULT", Due.read(x, "rim 0;"), 5);
        known("behind a FAULT", x, 1, 1 << 5);
        Due.due("no FAULT", Due.read(x, "rim 99;"), 0);
        Due.due("count(12)", x.count(12), 0);
    }

    private static void forgotten() {
        Due.says("28: All that was TOLD is forgotten: how many there were");
        SilkRise x = Due.with("rim 99;");
        Due.due("forget() nothing", x.forget(), 0);
        for (int n = 1; n <= 20; n++) {
            for (int i = 0; i < n; i++) {
                Due.due("tell()", x.tell(9, 1, 9, 1, 9), i);
            }
            Due.due("forget() " + n, x.forget(), n);
            Due.due("count(12)", x.count(12), 0);
            Due.due("pulls(1, 0)", x.pulls(1, 0), -1);
            Due.due("forget() once more", x.forget(), 0);
        }
        Due.due("no thing done", x.count(11), 0);
    }

    private static void knownByNone() {
        Due.says("29, 30: KNOWN by k: the first k; by 0 all PULLS may be");
        SilkRise x = new SilkRise();
        known("a new object", x, 0, 127);
        x.tell(1, 9, 0, 1, 0);
        known("one that cannot be", x, 0, 127);
        known("one that cannot be", x, 1, 0);
        x.forget();
        known("forgotten", x, 0, 127);
    }

    private static void knownByTheFirst() {
        Due.says("29: KNOWN by k: the first k");
        SilkRise x = Due.with("rim 99;");
        // At 16 and more: 0 to 3; then at 19: 2 and 3; then at 19 from 16: 3; then none.
        x.tell(5, 1, 19, 1, 19);
        x.tell(5, 1, 17, 1, 19);
        x.tell(5, 1, 16, 1, 19);
        x.tell(5, 1, 16, 1, 18);
        x.tell(5, 1, 16, 1, 18);
        int[] due = {127, 8 + 16 + 32 + 64, 32 + 64, 64, 0, 0};
        for (int k = 0; k < due.length; k++) {
            known("the first " + k, x, k, due[k]);
        }
        for (int k = due.length - 1; k >= 0; k--) {
            known("the first " + k, x, k, due[k]);
        }
    }

    private static void noSuchK() {
        Due.says("29, 30: NONE, -1000: no such k");
        SilkRise x = Due.with("rim 99;");
        for (int n = 0; n <= 2; n++) {
            for (int k : new int[] {-1, -2, n + 1, n + 2, 20, 21, Integer.MIN_VALUE, Integer.MAX_VALUE}) {
                Due.due("pulls(" + k + ", 0) of " + n, x.pulls(k, 0), -1);
                Due.due("pulls(" + k + ", 1) of " + n, x.pulls(k, 1), -1);
                Due.due("sure(" + k + ") of " + n, x.sure(k), -1000);
            }
            known("all of them", x, n, n == 0 ? 127 : 1 << 2);
            x.tell(5, 1, 9, 1, 8);
        }
    }

    private static void noSuchWhat() {
        Due.says("29: NONE: no such ones");
        SilkRise x = Due.with("rim 99;");
        x.tell(5, 1, 9, 1, 8);
        for (int what : new int[] {-1, -2, 2, 3, 100, Integer.MIN_VALUE, Integer.MAX_VALUE}) {
            Due.due("pulls(0, " + what + ")", x.pulls(0, what), -1);
            Due.due("pulls(1, " + what + ")", x.pulls(1, what), -1);
            Due.due("pulls(2, " + what + ")", x.pulls(2, what), -1);
        }
    }

    private static void eachPull() {
        Due.says("29: numbers -3 .. 3 that its PULL may have: how many; which (bits, by the number and 3)");
        for (int away = -4; away <= 4; away++) {
            SilkRise x = Due.with("rim 99;");
            x.tell(5, 1, 9, 1, 9 + away);
            known("away by " + away, x, 1, away >= -3 && away <= 3 ? 1 << (away + 3) : 0);
            SilkRise two = Due.with("rim 99;");
            two.tell(5, 1, 9, 2, 9 + away);
            known("away by " + away + " in 2 HOURS", two, 1, away % 2 == 0 ? 1 << (away / 2 + 3) : 0);
        }
        Due.says("29: the same in all");
        SilkRise x = Due.with("rim 99;");
        x.tell(5, 1, 9, 1, 10);
        x.tell(7, 2, 3, 2, 5);
        known("1 in both", x, 2, 1 << 4);
        x.tell(7, 2, 3, 2, 7);
        known("1 and 2", x, 3, 0);
    }

    private static void heldAtTheWalls() {
        Due.says("29: all that is KNOWN is so: X stays 0 .. 19");
        SilkRise x = Due.with("rim 99;");
        x.tell(5, 1, 0, 1, 0);
        known("from 0 to 0", x, 1, 1 + 2 + 4 + 8);
        x.forget();
        x.tell(5, 1, 19, 9, 19);
        known("from 19 to 19", x, 1, 8 + 16 + 32 + 64);
        x.forget();
        x.tell(5, 1, 1, 9, 0);
        known("from 1 to 0", x, 1, 1 + 2 + 4);
        x.forget();
        x.tell(5, 1, 0, 9, 19);
        known("from 0 to 19 in 9", x, 1, 64);
        x.forget();
        x.tell(5, 1, 0, 9, 18);
        known("from 0 to 18 in 9", x, 1, 32);
        x.forget();
        x.tell(5, 1, 19, 6, 1);
        known("from 19 to 1 in 6", x, 1, 1);
    }

    private static void notOverByThen() {
        Due.says("IV: not over by then");
        for (int n = 1; n <= 9; n++) {
            for (int rim = 1; rim <= 11; rim++) {
                SilkRise x = Due.with("rim " + rim + ";");
                x.tell(2, 1, 9, n, 9);
                known(n + " HOURS by LIFT 1, RIM " + rim, x, 1, n < rim ? 8 : 0);
            }
            // 5 high at first, then down by 1.
            SilkRise down = Due.with("rim 99; lift = if hour < 1 then 5 else 0 - 1;");
            down.tell(2, 1, 9, n, 9);
            known(n + " HOURS, down again", down, 1, n < 6 ? 8 : 0);
        }
        SilkRise x = Due.with("rim 99;");
        x.tell(4, 4, 9, 1, 9);
        known("LANDED at once", x, 1, 0);
        x.forget();
        x.tell(1, 9, 9, 1, 9);
        known("LANDED at once", x, 1, 0);
        // Over by the RIM for those PULLS alone that lift it so.
        x = Due.with("rim 10; lift = if 9 < across then 9 else 1;");
        x.tell(1, 1, 9, 3, 9);
        known("it stays at 9", x, 1, 8);
        x.forget();
        x.tell(1, 1, 9, 3, 12);
        known("9 high more, over by then", x, 1, 0);
        x.forget();
        x.tell(1, 1, 9, 3, 6);
        known("away from there", x, 1, 4);
    }

    private static void upTo9Hours() {
        Due.says("IV: behind n HOURS (1 .. 9)");
        for (int n = 1; n <= 9; n++) {
            SilkRise x = Due.with("rim 99; wind = if hour < 8 then 0 else 1;");
            x.tell(9, 1, 0, n, n < 9 ? 0 : 1);
            // X stays 0 by PULLS below 0 and by 0, till WIND moves it in the ninth hour.
            known("n " + n, x, 1, n < 9 ? 15 : 8);
        }
    }

    private static void asItIsAsked() {
        Due.says("IV: begun now (as it is asked)");
        SilkRise x = Due.with("load a 5 1 1; silk s 9 0; hook h 5 5 1; rim 8; wind = hour + stored * 2; lift = 1 + size / 9 * 7;");
        x.tell(5, 1, 9, 1, 9);
        known("hour 0", x, 1, 8);
        x.hours(1);
        known("hour 1", x, 1, 4);
        x.undo();
        known("undone", x, 1, 8);
        x.tie(0, 0);
        x.hours(1);
        Due.due("STORED", x.count(6), 1);
        known("hour 1, stored 1", x, 1, 1);
        x.hours(1);
        // WIND is held to 3 from now on.
        known("hour 2, stored 1", x, 1, 1);
        // Asked at the end of a day it goes on in the next one.
        x = Due.with("rim 99; wind = day;");
        x.tell(5, 1, 9, 2, 10);
        known("day 0", x, 1, 0);
        x.hours(23);
        known("day 0 and day 1", x, 1, 8);
        x.hours(1);
        known("day 1", x, 1, 0);
    }

    private static void alone() {
        Due.says("IV: alone (up is 1, no GUSTS)");
        SilkRise x = Due.with("load a 5 1 1; load b 5 1 1; silk s 2 0; silk t 2 0; rim 99; gusts 100; wind = up;");
        x.tell(5, 1, 9, 1, 10);
        known("nothing in the air", x, 1, 8);
        x.tie(0, 0);
        known("one in the air", x, 1, 8);
        x.tie(1, 1);
        known("two in the air", x, 1, 8);
    }

    private static void sure() {
        Due.says("30: SURE (-3 .. 3); -100: this or that, none");
        SilkRise x = Due.with("rim 99;");
        for (int pull = -3; pull <= 3; pull++) {
            x.tell(5, 1, 9, 1, 9 + pull);
            Due.due("sure(1)", x.sure(1), pull);
            x.forget();
        }
        x.tell(5, 1, 18, 1, 19);
        Due.due("1, 2 or 3", x.sure(1), -100);
        x.tell(5, 1, 17, 1, 19);
        Due.due("2 or 3", x.sure(2), -100);
        x.tell(5, 1, 16, 1, 19);
        Due.due("3", x.sure(3), 3);
        x.tell(5, 1, 16, 1, 17);
        Due.due("none", x.sure(4), -100);
        Due.due("by none", x.sure(0), -100);
    }
}
