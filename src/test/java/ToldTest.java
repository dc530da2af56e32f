/** Promises 27 to 30: what is TOLD, and which PULLS it leaves. */
public final class ToldTest {
    public static void main(String[] args) {
        told();
        pulls();
        asItIsAsked();
        stays();
        Due.end("ToldTest");
    }

    private static void told() {
        SilkRise x = new SilkRise();
        int[][] none = {{0, 1, 0, 1, 0}, {10, 1, 0, 1, 0}, {1, 0, 0, 1, 0}, {1, 10, 0, 1, 0}, {1, 1, -1, 1, 0}, {1, 1, 20, 1, 0},
                {1, 1, 0, 0, 0}, {1, 1, 0, 10, 0}, {1, 1, 0, 1, -1}, {1, 1, 0, 1, 20}};
        for (int[] a : none) {
            Due.due("no such tell", x.tell(a[0], a[1], a[2], a[3], a[4]), -1);
        }
        Due.due("count(12)", x.count(12), 0);
        Due.due("forget() nothing", x.forget(), 0);
        for (int i = 0; i < 20; i++) {
            Due.due("tell", x.tell(1 + i % 9, 9 - i % 9, 19 - i, 1 + i % 9, i), i);
        }
        Due.due("a 21st", x.tell(1, 1, 1, 1, 1), -1);
        Due.due("count(12)", x.count(12), 20);
        Due.due("not a thing done", x.count(11), 0);
        Due.due("pulls(20, 0)", x.pulls(20, 0), 0);
        Due.due("pulls(21, 0)", x.pulls(21, 0), -1);
        Due.due("sure(20)", x.sure(20), -100);
        Due.due("sure(21)", x.sure(21), -1000);
        Due.due("forget()", x.forget(), 20);
        Due.due("count(12)", x.count(12), 0);
        Due.due("pulls(1, 0)", x.pulls(1, 0), -1);
        Due.due("tell again", x.tell(1, 1, 1, 1, 1), 0);
    }

    private static void known(SilkRise x, int k, int which, int sure) {
        Due.due("pulls(" + k + ", 0)", x.pulls(k, 0), Integer.bitCount(which));
        Due.due("pulls(" + k + ", 1)", x.pulls(k, 1), which);
        Due.due("sure(" + k + ")", x.sure(k), sure);
    }

    private static void pulls() {
        SilkRise x = Due.with("rim 99;");
        known(x, 0, 127, -100);
        // 17 + 2 * PULL, held to 19: 1, 2 and 3.
        x.tell(9, 1, 17, 2, 19);
        known(x, 1, 1 << 4 | 1 << 5 | 1 << 6, -100);
        x.tell(5, 1, 2, 3, 11);
        known(x, 2, 1 << 6, 3);
        known(x, 1, 1 << 4 | 1 << 5 | 1 << 6, -100);
        known(x, 0, 127, -100);
        x.tell(5, 1, 2, 3, 8);
        known(x, 3, 0, -100);
        for (int what : new int[] {-1, 2}) {
            Due.due("pulls(0, " + what + ")", x.pulls(0, what), -1);
        }
        Due.due("pulls(-1, 0)", x.pulls(-1, 0), -1);
        Due.due("pulls(4, 0)", x.pulls(4, 0), -1);
        Due.due("sure(-1)", x.sure(-1), -1000);
        Due.due("sure(4)", x.sure(4), -1000);
        for (int pull = -3; pull <= 3; pull++) {
            x.forget();
            x.tell(9, 1, 9, 1, 9 + pull);
            known(x, 1, 1 << (pull + 3), pull);
        }
        x.forget();
        x.tell(9, 1, 9, 2, 10);
        known(x, 1, 0, -100);
    }

    private static void asItIsAsked() {
        // Over by then: it LANDED, or it came to the RIM.
        SilkRise x = Due.with("rim 10;");
        x.tell(4, 4, 5, 1, 5);
        known(x, 1, 0, -100);
        x.forget();
        x.tell(6, 1, 5, 1, 5);
        known(x, 1, 8, 0);
        x.tell(6, 1, 5, 2, 5);
        known(x, 2, 0, -100);
        // By the hour that is now, by stored as now, with up 1, without GUSTS.
        x = Due.with("load a 5 1 1; load b 5 1 1; silk s 9 0; silk t 9 0; hook h 5 5 9; rim 20; gusts 100;"
                + "wind = stored + hour / 2 + (up - 1) * 3; lift = if up < 2 then 9 else 1;");
        x.tell(1, 1, 5, 1, 6);
        known(x, 1, 1 << 4, 1);
        x.tie(0, 0);
        x.tie(1, 1);
        known(x, 1, 1 << 4, 1);
        x.hours(1);
        x.hours(1);
        known(x, 1, 1 << 3, 0);
        x = Due.with("load a 5 1 1; silk s 9 0; hook h 5 5 9; rim 8; wind = stored;");
        x.tell(5, 1, 5, 1, 6);
        known(x, 1, 1 << 4, 1);
        x.tie(0, 0);
        x.hours(1);
        known(x, 1, 1 << 3, 0);
        x.undo();
        known(x, 1, 1 << 4, 1);
    }

    private static void stays() {
        SilkRise x = Due.with("load a 5 1 1; silk s 9 0;");
        x.hold(0);
        x.tell(9, 1, 17, 1, 19);
        x.tie(0, 0);
        x.undo();
        Due.due("undo() leaves it", x.count(12), 1);
        x.restore(0);
        Due.due("restore() leaves it", x.count(12), 1);
        Due.read(x, "lod");
        Due.due("a FAULT leaves it", x.count(12), 1);
        Due.read(x, "");
        Due.due("a text forgets it", x.count(12), 0);
    }
}
