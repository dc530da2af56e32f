/** Each boundary of promises 31 to 33, and of the 512 calls. */
public final class EdgesSlotsTest {
    private static final int[] OTHERS = {-1, -2, 3, 4, 31, 32, 33, 100, Integer.MIN_VALUE, Integer.MAX_VALUE};
    private static final String TEXT = "load a 5 2 10; load b 8 6 30; silk s 7 1; silk t 8 -1; hook h 7 1 1; hook g 1 1 1; ties = 3;";

    public static void main(String[] args) {
        holdEachSlot();
        holdNoSuchOne();
        holdOverIt();
        heldIsNotToldNorTape();
        restoreNothingHeld();
        restoreEachSlot();
        restoreStaysThere();
        restoreNothingUndone();
        restoreAll();
        heldGoesWithTheText();
        heldOfANewObject();
        countBits();
        countThings();
        countNoSuchOne();
        upTo512Calls();
        Due.end("EdgesSlotsTest");
    }

    private static void holdEachSlot() {
        Due.says("31: held in a SLOT (0 .. 2): true");
        SilkRise x = Due.with(TEXT);
        for (int slot = 2; slot >= 0; slot--) {
            Due.due("count(13)", x.count(13), 2 - slot);
            Due.due("hold(" + slot + ")", x.hold(slot), true);
            Due.due("hold(" + slot + ") again", x.hold(slot), true);
        }
        Due.due("count(13)", x.count(13), 3);
        Due.due("no thing done", x.count(11), 0);
    }

    private static void holdNoSuchOne() {
        Due.says("31: false: no such one");
        SilkRise x = Due.with(TEXT);
        x.hours(1);
        int[] ahead = Due.seen(x);
        for (int slot : OTHERS) {
            Due.due("hold(" + slot + ")", x.hold(slot), false);
            Due.due("restore(" + slot + ")", x.restore(slot), false);
        }
        Due.asSeen("no such SLOTS", x, ahead);
        for (int slot = 0; slot < 3; slot++) {
            Due.due("restore(" + slot + ")", x.restore(slot), false);
        }
    }

    private static void holdOverIt() {
        Due.says("31: All that goes on is held: the latest");
        SilkRise x = Due.with(TEXT);
        x.hold(1);
        x.hours(5);
        x.hold(1);
        x.hours(5);
        Due.due("restore(1)", x.restore(1), true);
        Due.due("the hour", x.count(3), 5);
        Due.due("count(13)", x.count(13), 1);
    }

    private static void heldIsNotToldNorTape() {
        Due.says("31: (not what is TOLD, nor the tape)");
        SilkRise x = Due.with(TEXT);
        x.tell(1, 1, 1, 1, 1);
        x.feed(0, 0, 0, 0, 0);
        x.hold(0);
        x.tell(2, 2, 2, 2, 2);
        x.feed(0, 0, 0, 0, 0);
        x.restore(0);
        Due.due("count(12)", x.count(12), 2);
        Due.due("count(10)", x.count(10), 40);
        x.forget();
        x.back(40);
        x.restore(0);
        Due.due("count(12)", x.count(12), 0);
        Due.due("count(10)", x.count(10), 0);
    }

    private static void restoreNothingHeld() {
        Due.says("32: false, and nothing happens: no such one, nothing is held");
        for (int held = 0; held < 3; held++) {
            SilkRise x = Due.with(TEXT);
            x.hours(1);
            x.hold(held);
            x.tie(0, 0);
            x.hours(1);
            int[] ahead = Due.seen(x);
            for (int slot = 0; slot < 3; slot++) {
                if (slot != held) {
                    Due.due("restore(" + slot + ") of nothing", x.restore(slot), false);
                }
            }
            for (int slot : OTHERS) {
                Due.due("restore(" + slot + ")", x.restore(slot), false);
            }
            Due.asSeen("restore() refused", x, ahead);
            Due.due("undo() still", x.undo(), true);
            Due.due("restore(" + held + ")", x.restore(held), true);
        }
        Due.due("restore(0) of a new object", new SilkRise().restore(0), false);
    }

    private static void restoreEachSlot() {
        Due.says("32: It goes on from what a SLOT holds: true");
        SilkRise x = Due.with(TEXT);
        for (int slot = 0; slot < 3; slot++) {
            x.hours(10);
            x.hold(slot);
        }
        int[] order = {2, 0, 1, 1, 2, 0};
        for (int slot : order) {
            Due.due("restore(" + slot + ")", x.restore(slot), true);
            Due.due("the hour of " + slot, x.count(3), 10 * slot + 10);
            x.hours(1);
            Due.due("it goes on", x.count(3), 10 * slot + 11);
        }
    }

    private static void restoreStaysThere() {
        Due.says("32: (that stays there");
        SilkRise x = Due.with(TEXT);
        x.tie(0, 0);
        x.hours(1);
        x.hold(0);
        int[] held = Due.seen(x);
        for (int times = 0; times < 2; times++) {
            // What goes on behind hold() or restore() does not reach what is held.
            x.hours(2);
            x.patch(1, true);
            x.move(0, 0);
            x.tie(1, 0);
            Due.due("restore(0)", x.restore(0), true);
            held[11] = 0;
            Due.asSeen("restore(0)", x, held);
        }
    }

    private static void restoreNothingUndone() {
        Due.says("32: nothing can be undone then)");
        SilkRise x = Due.with(TEXT);
        x.hours(1);
        x.hours(1);
        x.hold(0);
        Due.due("count(11) behind hold()", x.count(11), 2);
        x.hours(1);
        Due.due("restore(0)", x.restore(0), true);
        Due.due("count(11)", x.count(11), 0);
        Due.due("undo()", x.undo(), false);
        Due.due("the hour", x.count(3), 2);
        x.hours(1);
        Due.due("count(11)", x.count(11), 1);
        Due.due("undo()", x.undo(), true);
        Due.due("the hour", x.count(3), 2);
        Due.due("undo()", x.undo(), false);
        Due.due("restore(0) again", x.restore(0), true);
        Due.due("undo()", x.undo(), false);
        // Forty behind it can be undone again.
        for (int i = 0; i < 41; i++) {
            x.hours(1);
        }
        for (int i = 0; i < 40; i++) {
            Due.due("undo() " + i, x.undo(), true);
        }
        Due.due("undo() beyond", x.undo(), false);
        Due.due("the hour", x.count(3), 3);
    }

    private static void restoreAll() {
        Due.says("31: All that goes on");
        SilkRise x = Due.with(TEXT);
        x.tie(0, 0);
        x.hours(2);
        x.tie(1, 1);
        x.hours(1);
        x.move(1, 5);
        x.patch(0, true);
        int[] ahead = Due.seen(x);
        Due.due("STORED", ahead[6], 1);
        Due.due("in the air", ahead[5], 2);
        x.hold(2);
        x.hours(30);
        x.move(0, 0);
        x.move(1, 19);
        x.patch(0, false);
        x.patch(1, false);
        x.restore(2);
        ahead[11] = 0;
        ahead[13] = 1;
        Due.asSeen("restore(2)", x, ahead);
        Due.due("how high in 3 HOURS", x.then(1, 3, 2), 8);
        Due.due("how in 4 HOURS", x.then(1, 4, 0), 3);
        Due.due("X in 4 HOURS", x.then(1, 4, 1), 3);
    }

    private static void heldGoesWithTheText() {
        Due.says("SLOTS hold nothing (behind a text)");
        SilkRise x = Due.with(TEXT);
        for (int slot = 0; slot < 3; slot++) {
            x.hold(slot);
        }
        Due.due("a FAULT", Due.read(x, "!"), 1);
        Due.due("count(13)", x.count(13), 3);
        Due.due("no FAULT", Due.read(x, TEXT), 0);
        Due.due("count(13)", x.count(13), 0);
        for (int slot = 0; slot < 3; slot++) {
            Due.due("restore(" + slot + ")", x.restore(slot), false);
        }
        x.hold(1);
        Due.due("count(13)", x.count(13), 1);
        Due.due("restore(0)", x.restore(0), false);
        Due.due("restore(2)", x.restore(2), false);
        Due.due("restore(1)", x.restore(1), true);
    }

    private static void heldOfANewObject() {
        Due.says("31: a new object can be held");
        SilkRise x = new SilkRise();
        x.hold(0);
        x.hours(9);
        Due.due("restore(0)", x.restore(0), true);
        Due.due("the hour", x.count(3), 0);
        Due.due("count(11)", x.count(11), 0);
    }

    private static void countBits() {
        Due.says("33: 4 LOADS at the foot (bits), 5 in the air (bits), 6 STORED (bits), 7 MISSED (bits)");
        SilkRise x = Due.with("load a 5 1 1; load b 5 1 1; load c 5 1 1; load d 5 1 1; load e 5 1 1; load f 9 1 1; load g 5 1 1; silk s 9 0; silk t 9 0;"
                + "silk u 9 0; silk v 1 0; silk w 2 0; hook h 5 0 2; rim 8; lift = if size < 3 then 1 else if size < 9 then 0 else 8;");
        x.tie(6, 0);
        x.tie(5, 1);
        x.tie(0, 2);
        x.tie(3, 4);
        int[][] due = {{22, 105, 0, 0}, {22, 8, 65, 32}};
        for (int when = 0; when < 2; when++) {
            for (int how = 0; how < 4; how++) {
                Due.due("count(" + (4 + how) + ")", x.count(4 + how), due[when][how]);
            }
            x.hours(1);
        }
        Due.due("earned", x.count(8), 2);
        Due.due("paid", x.count(9), 4);
    }

    private static void countThings() {
        Due.says("33: 0 LOADS, 1 SILKS, 2 HOOKS .. 15 the RIM");
        SilkRise x = Due.with("load a 5 1 90; load b 5 1 90; load c 9 1 1; silk s 9 0; silk t 2 0; hook h 5 0 2; rim 8; ties = 7; gusts 100;");
        x.tie(0, 0);
        x.tie(2, 1);
        x.hours(1);
        x.hours(1);
        x.feed(0, 0, 0, 0, 0);
        x.back(3);
        x.tell(1, 1, 1, 1, 1);
        x.tell(1, 1, 1, 1, 1);
        x.hold(0);
        x.hold(1);
        x.hold(2);
        int[] due = {3, 2, 1, 2, 2, 4, 1, 0, 90, 14, 17, 4, 2, 3, 1, 8};
        for (int what = 0; what < 16; what++) {
            Due.due("count(" + what + ")", x.count(what), due[what]);
        }
        x.undo();
        Due.due("the hour undone", x.count(3), 1);
        Due.due("things that can be undone", x.count(11), 3);
    }

    private static void countNoSuchOne() {
        Due.says("33: NONE for others");
        SilkRise x = Due.with(TEXT);
        for (int what : new int[] {-1, -2, 16, 17, 31, 32, 100, Integer.MIN_VALUE, Integer.MAX_VALUE}) {
            Due.due("count(" + what + ")", x.count(what), -1);
            Due.due("count(" + what + ") of a new object", new SilkRise().count(what), -1);
        }
    }

    private static void upTo512Calls() {
        Due.says("An object is used for at most 512 calls: up to then it answers");
        SilkRise x = new SilkRise();
        for (int i = 1; i <= 511; i++) {
            Due.due("hours(72) " + i, x.hours(72), 72 * i);
        }
        Due.due("the 512th call", x.count(3), 72 * 511);
        x = Due.with("load a 5 1 99; silk s 9 0; hook h 5 5 1; rim 8; ties = 99; lift = if stored < 1 then 0 else 9;");
        // 7 calls are made so far: 5 of feed(), then back() and read().
        for (int i = 1; i <= 252; i++) {
            Due.due("tie() " + i, x.tie(0, 0), 99);
            Due.due("hours(1) " + i, x.hours(1), i);
        }
        Due.due("the 512th call", x.count(9), 252 * 99);
        x = new SilkRise();
        for (int i = 0; i < 256; i++) {
            Due.due("tell() " + i, x.tell(1, 1, 1, 1, 1), 0);
            Due.due("forget() " + i, x.forget(), 1);
        }
        x = Due.with("silk s 5 0;");
        for (int i = 0; i < 254; i++) {
            Due.due("patch() " + i, x.patch(0, true), true);
            Due.due("undo() " + i, x.undo(), true);
        }
        x = new SilkRise();
        for (int i = 0; i < 170; i++) {
            Due.due("feed() " + i, x.feed(0x72696d20, 0x353b2020, 0x20202020, 0x20202020, 0x20202020), 20);
            Due.due("read() " + i, x.read(), 0);
            Due.due("count(15) " + i, x.count(15), 5);
        }
        x = new SilkRise();
        for (int i = 0; i < 512; i++) {
            Due.due("hold() " + i, x.hold(i % 3), true);
        }
    }
}
