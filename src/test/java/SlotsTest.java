/** Promises 31 and 32: what is held in SLOTS, and gone on from. */
public final class SlotsTest {
    private static final String TEXT = "load a 5 2 10; load b 8 6 30; silk s 7 1; silk t 8 -1; hook h 7 1 1; hook g 1 1 1; ties = 3;";

    public static void main(String[] args) {
        SilkRise x = Due.with(TEXT);
        int[] others = {-1, 3, Integer.MIN_VALUE, Integer.MAX_VALUE};
        for (int slot : others) {
            Due.due("hold(" + slot + ")", x.hold(slot), false);
            Due.due("restore(" + slot + ")", x.restore(slot), false);
        }
        for (int slot = 0; slot < 3; slot++) {
            Due.due("restore(" + slot + ") of nothing", x.restore(slot), false);
        }
        Due.due("count(13)", x.count(13), 0);
        x.tie(0, 0);
        x.hours(1);
        Due.due("hold(2)", x.hold(2), true);
        Due.due("count(13)", x.count(13), 1);
        Due.due("not a thing done", x.count(11), 2);
        x.hours(1);
        x.move(1, 9);
        x.patch(1, true);
        x.tie(1, 1);
        Due.due("hold(0)", x.hold(0), true);
        Due.due("count(13)", x.count(13), 2);
        x.feed(1, 2, 3, 4, 5);
        Due.due("count(11)", x.count(11), 6);
        Due.due("restore(1) of nothing", x.restore(1), false);
        Due.due("nothing happens", x.count(11), 6);
        Due.due("restore(2)", x.restore(2), true);
        Due.due("nothing can be undone", x.count(11), 0);
        Due.due("undo()", x.undo(), false);
        Due.due("hour", x.count(3), 1);
        Due.due("in the air", x.count(5), 1);
        Due.due("high", x.load(0, 4), 5);
        Due.due("X", x.load(0, 0), 6);
        Due.due("its SILK", x.load(0, 5), 0);
        Due.due("earned", x.count(8), 0);
        Due.due("paid", x.count(9), 3);
        Due.due("hook X", x.hook(1, 0), 1);
        Due.due("PULL", x.pull(1), -1);
        Due.due("let go", x.silk(1, 2), 0);
        Due.due("hooked none", x.hook(0, 3), 0);
        Due.due("the tape stays", x.count(10), 20);
        Due.due("count(13)", x.count(13), 2);
        x.hours(5);
        Due.due("undo() behind restore()", x.undo(), true);
        Due.due("undo() no further", x.undo(), false);
        Due.due("restore(2) again", x.restore(2), true);
        Due.due("hour", x.count(3), 1);
        Due.due("restore(0)", x.restore(0), true);
        Due.due("hour", x.count(3), 2);
        Due.due("STORED", x.count(6), 1);
        Due.due("earned", x.count(8), 10);
        Due.due("paid", x.count(9), 6);
        Due.due("hook X", x.hook(1, 0), 9);
        Due.due("PULL", x.pull(1), 0);
        Due.due("let go", x.silk(1, 2), 1);
        Due.due("hooked", x.hook(0, 3), 1);
        x.hours(1);
        Due.due("hold(0) over it", x.hold(0), true);
        Due.due("count(13)", x.count(13), 2);
        x.hours(1);
        x.restore(0);
        Due.due("hour", x.count(3), 3);
        Due.read(x, "rim");
        Due.due("a FAULT leaves the SLOTS", x.count(13), 2);
        x.back(x.count(10));
        Due.due("read()", Due.read(x, TEXT), 0);
        Due.due("SLOTS hold nothing", x.count(13), 0);
        Due.due("restore(0)", x.restore(0), false);
        Due.end("SlotsTest");
    }
}
