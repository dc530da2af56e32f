/** Each boundary of promises 16 to 20: FLIGHT, SOON, PATCHES, the nearest HOOK, LIFTS. */
public final class EdgesFlightTest {
    private static final int[] OTHERS = {-1, -2, 3, 5, 7, 100, Integer.MIN_VALUE, Integer.MAX_VALUE};

    public static void main(String[] args) {
        flightsOf1To48Hours();
        landedIn1To48Hours();
        notIn48();
        notIn48BehindAnother();
        howItIsOver();
        asEachHourBegan();
        begunBehindW();
        alone();
        withoutGusts();
        notAtTheFoot();
        noSuchFlights();
        nothingHappens();
        soonFewest();
        soonNot();
        soonNoSuchOnes();
        patchesNearest();
        patchesLesserOfTwo();
        patchesNone();
        patchesNoSuchOnes();
        near();
        liftsHeaviest();
        liftsNone();
        liftsHookedOrNot();
        liftsNoSuchOnes();
        Due.end("EdgesFlightTest");
    }

    private static void flight(String why, SilkRise x, int w, int... due) {
        for (int what = 0; what < 4; what++) {
            Due.due(why + ": flight(0, 0, " + w + ", " + what + ")", x.flight(0, 0, w, what), due[what]);
        }
    }

    private static void flightsOf1To48Hours() {
        Due.says("16: behind how many HOURS from its beginning (1 .. 48) it is over");
        for (int rim = 1; rim <= 50; rim++) {
            SilkRise x = Due.with("load a 5 1 1; silk s 2 0; hook h 5 0 1; rim " + rim + ";");
            if (rim <= 48) {
                flight("RIM " + rim, x, 0, rim, 1, 0, 5);
                flight("RIM " + rim, x, 24, rim, 1, 0, 5);
            } else {
                flight("RIM " + rim, x, 0, 0, 0, -2, 5);
                flight("RIM " + rim, x, 24, 0, 0, -2, 5);
            }
        }
    }

    private static void landedIn1To48Hours() {
        Due.says("16: 3 LANDED, behind 1 .. 48 HOURS");
        flight("at once", Due.with("load a 5 9 1; silk s 1 2;"), 0, 1, 3, -2, 7);
        flight("by LIFT 0", Due.with("load a 5 1 1; silk s 1 2;"), 0, 1, 3, -2, 7);
        // 9 high a first, then one down for each hour but those of the second day's first ones.
        for (int stop = 0; stop <= 20; stop++) {
            SilkRise x = Due.with("load a 5 1 1; silk s 1 0; rim 99; lift = if day * 24 + hour < 1 then 9 else if hour + day * 24 < " + (30 + stop)
                    + " then 0 else 0 - 1;");
            int over = 30 + stop + 9;
            if (over <= 48) {
                flight("down in the end", x, 0, over, 3, -2, 5);
            } else {
                flight("down in the end", x, 0, 0, 0, -2, 5);
            }
        }
    }

    private static void notIn48() {
        Due.says("16: what 0: 0, 1: 0, 2: -2, 3: at which X it is behind 48, not in 48");
        SilkRise x = Due.with("load a 0 1 1; silk s 1 0; rim 99; lift = if high < 1 then 1 else 0; wind = if hour < 6 then 1 else if hour < 9 then 0 - 1 else 0;");
        // Each day it goes aside by 6 - 3.
        flight("two days", x, 0, 0, 0, -2, 6);
        flight("two days from hour 6 on", x, 6, 0, 0, -2, 9);
        x = Due.with("load a 0 1 1; silk s 1 1; rim 99; lift = if high < 1 then 1 else 0; wind = if hour < 23 then 0 - 1 else 0;");
        flight("the 24th and the 48th hour", x, 0, 0, 0, -2, 2);
        x = Due.with("load a 0 1 1; silk s 1 0; rim 99; lift = if high < 1 then 1 else 0; wind = if 46 < hour + day * 24 then 1 else 0;");
        flight("the 48th hour alone", x, 0, 0, 0, -2, 1);
        x = Due.with("load a 0 1 1; silk s 1 0; rim 99; lift = if high < 1 then 1 else 0; wind = if 47 < hour + day * 24 then 1 else 0;");
        flight("not the 49th one", x, 0, 0, 0, -2, 0);
    }

    private static void notIn48BehindAnother() {
        Due.says("16: 0: not in 48; -2: none, whatever was asked ahead");
        SilkRise x = Due.with("load a 5 1 1; load b 7 9 1; load c 5 5 1; silk s 9 0; silk t 9 2; hook h 5 0 1; rim 20;"
                + "lift = if weight < 2 then 9 else if weight < 9 then 3 * (1 - high / 3) else 0;");
        Due.due("hooked", x.flight(0, 0, 0, 2), 0);
        Due.due("how long", x.flight(0, 0, 0, 0), 3);
        Due.due("not over, how long", x.flight(2, 0, 0, 0), 0);
        Due.due("not over, by which", x.flight(2, 0, 0, 2), -2);
        Due.due("hooked", x.flight(0, 0, 0, 2), 0);
        Due.due("not over, by which", x.flight(2, 0, 0, 2), -2);
        Due.due("hooked", x.flight(0, 0, 0, 2), 0);
        Due.due("LANDED, by which", x.flight(1, 0, 0, 2), -2);
        Due.due("LANDED, how", x.flight(1, 0, 0, 1), 3);
        Due.due("hooked", x.flight(0, 0, 0, 2), 0);
        Due.due("MISSED, by which", x.flight(0, 1, 0, 2), -2);
        Due.due("MISSED, how", x.flight(0, 1, 0, 1), 2);
        Due.due("not over, soon", x.soon(2, 0, 0), -2);
        Due.due("LANDED, soon", x.soon(1, 0, 0), -2);
        Due.due("not over, patches", x.patches(2, 0, 0), -100);
    }

    private static void howItIsOver() {
        Due.says("16: how: 1 hooked, 2 MISSED, 3 LANDED, 0 not in 48; by which HOOK; at which X");
        flight("hooked", Due.with("load a 5 1 1; silk s 9 3; hook h 1 5 1; hook g 11 0 1; rim 10;"), 0, 2, 1, 1, 11);
        flight("MISSED", Due.with("load a 5 1 1; silk s 9 3; hook h 1 5 1; hook g 12 0 1; rim 10;"), 0, 2, 2, -2, 11);
        flight("MISSED without a HOOK", Due.with("load a 5 1 1; silk s 9 -3; rim 10;"), 0, 2, 2, -2, 0);
        flight("LANDED", Due.with("load a 18 1 1; silk s 1 3; hook h 19 5 1; rim 10;"), 0, 1, 3, -2, 19);
        flight("the first of alike ones", Due.with("load a 5 1 1; silk s 9 0; hook h 8 5 1; hook g 3 5 1; hook f 7 5 1; rim 8;"), 0, 1, 1, 1, 5);
        SilkRise x = Due.with("load a 5 1 1; load b 5 1 1; silk s 9 0; silk t 9 0; hook h 5 0 1; hook g 7 2 1; rim 8;");
        x.tie(1, 1);
        // Each one is alone: the HANDS of the nearest one are its own.
        flight("one in the air to the same HOOK", x, 0, 1, 1, 0, 5);
        x.move(0, 6);
        flight("a HOOK MOVED away, the next one", x, 0, 1, 1, 1, 5);
        x.move(1, 8);
        flight("both MOVED away", x, 0, 1, 2, -2, 5);
        flight("a HOOK MOVED, its REACH is 0", Due.with("load a 6 1 1; silk s 9 0; hook h 6 0 1; rim 8;"), 0, 1, 1, 0, 6);
    }

    private static void asEachHourBegan() {
        Due.says("16: all by how all was as the hour began");
        // It is 4, 8, 14 and 23 high, at 5, 7, 10 and 13.
        SilkRise x = Due.with("load a 5 1 1; silk s 9 0; hook h 9 0 1; rim 15; wind = high / 2; lift = across - up;");
        flight("by high and across", x, 0, 4, 2, -2, 13);
        x = Due.with("load a 5 1 1; silk s 9 0; hook h 7 0 1; rim 8; wind = high / 2; lift = 4;");
        flight("to the RIM in its second hour", x, 0, 2, 1, 0, 7);
        x = Due.with("load a 5 1 1; silk s 9 1; hook h 7 0 1; rim 12; lift = across;");
        flight("LIFT 5, 6 and 7", x, 0, 3, 2, -2, 8);
        // X stays 0 .. 19 by PULL and WIND together.
        x = Due.with("load a 0 1 1; silk s 9 3; hook h 0 0 1; rim 8; wind = 0 - 3;");
        flight("3 and -3", x, 0, 1, 1, 0, 0);
        x = Due.with("load a 19 1 1; silk s 9 -3; hook h 19 0 1; rim 8; wind = 3;");
        flight("-3 and 3", x, 0, 1, 1, 0, 19);
        x = Due.with("load a 1 1 1; silk s 9 -3; hook h 0 0 1; rim 8; wind = 0 - 3;");
        flight("-6", x, 0, 1, 1, 0, 0);
        x = Due.with("load a 18 1 1; silk s 9 3; hook h 19 0 1; rim 8; wind = 3;");
        flight("6", x, 0, 1, 1, 0, 19);
    }

    private static void begunBehindW() {
        Due.says("16: begun behind w HOURS (0 .. 24) from now");
        SilkRise x = Due.with("load a 0 1 1; silk s 9 0; rim 8; wind = if hour < 6 then 0 else if hour < 12 then 1 else if hour < 18 then 2 else 3;");
        for (int w = 0; w <= 24; w++) {
            flight("w " + w, x, w, 1, 2, -2, w % 24 / 6);
        }
        x.hours(10);
        for (int w = 0; w <= 24; w++) {
            flight("at 10, w " + w, x, w, 1, 2, -2, (w + 10) % 24 / 6);
        }
        SilkRise days = Due.with("load a 0 1 1; silk s 9 0; rim 8; wind = day;");
        flight("the day's last hour", days, 23, 1, 2, -2, 0);
        flight("the next day's first", days, 24, 1, 2, -2, 1);
    }

    private static void alone() {
        Due.says("16: alone (nothing else in the air then: up is 1; stored as now)");
        SilkRise x = Due.with("load a 0 1 1; load b 5 1 1; load c 5 1 1; silk s 9 0; silk t 9 0; silk u 9 0; hook h 5 0 1; rim 8; wind = up + stored - 1;"
                + "lift = if up < 2 then 8 else 0 - 9;");
        flight("nothing else", x, 0, 1, 2, -2, 0);
        x.tie(1, 1);
        flight("one in the air", x, 0, 1, 2, -2, 0);
        x.tie(2, 2);
        flight("two in the air", x, 0, 1, 2, -2, 0);
        x = Due.with("load a 0 1 1; load b 5 1 1; load c 5 1 1; silk s 9 0; silk t 9 0; silk u 9 0; hook h 5 0 2; rim 8; wind = stored;");
        x.tie(1, 1);
        flight("none STORED so far", x, 24, 1, 2, -2, 0);
        x.tie(2, 2);
        x.hours(1);
        Due.due("STORED", x.count(6), 6);
        flight("two STORED", x, 0, 1, 2, -2, 2);
    }

    private static void withoutGusts() {
        Due.says("no GUSTS but IN n HOURS and in a YEAR");
        String text = "load a 5 1 9; silk s 9 0; hook h 6 0 1; hook g 7 0 1; rim 8; wind = 1; ties = 2;";
        SilkRise calm = Due.with(text);
        SilkRise x = Due.with(text + "gusts 100;");
        Due.due("a GUST", x.count(14), 1);
        flight("no GUSTS", x, 0, 1, 1, 0, 6);
        Due.due("soon(0, 0, 0)", x.soon(0, 0, 0), calm.soon(0, 0, 0));
        Due.due("soon(0, 0, 1)", x.soon(0, 0, 1), -2);
        Due.due("patches(0, 0, 0)", x.patches(0, 0, 0), 0);
        Due.due("patches(0, 0, 1)", x.patches(0, 0, 1), 1);
        Due.due("fill(-1)", x.fill(-1), 7);
        Due.due("fewest()", x.fewest(), 1);
        Due.due("waits(0, 0, 1)", x.waits(0, 0, 1), 7);
        x.tell(2, 1, 5, 1, 6);
        Due.due("pulls(1, 1)", x.pulls(1, 1), 8);
        Due.due("sure(1)", x.sure(1), 0);
        x.tie(0, 0);
        Due.due("IN 1 HOUR there is one", x.then(0, 1, 1), 7);
        x.hours(1);
        Due.due("as the HOUR goes by", x.load(0, 6), 1);
        // From 5 it is at 6 in its second hour, by a GUST it would be at 7.
        x = Due.with("silk s 9 0; rim 16; wind = 1; lift = if across < 7 then size - weight else 0 - 9; gusts 100;");
        Due.due("lifts(0, 5)", x.lifts(0, 5), 1);
        Due.due("lifts(0, 6)", x.lifts(0, 6), -2);
    }

    private static void notAtTheFoot() {
        Due.says("16: -2: the LOAD or the SILK is not at the foot");
        SilkRise x = Due.with("load a 5 1 1; load b 9 1 1; load c 5 1 1; silk s 9 0; silk t 5 0; hook h 5 0 1; rim 8;");
        x.tie(0, 0);
        x.tie(1, 1);
        for (int what = 0; what < 4; what++) {
            for (int w = 0; w <= 24; w += 12) {
                Due.due("both in the air", x.flight(0, 0, w, what), -2);
                Due.due("both in the air", x.flight(1, 0, w, what), -2);
                Due.due("the SILK in the air", x.flight(2, 0, w, what), -2);
            }
        }
        x.hours(2);
        for (int what = 0; what < 4; what++) {
            Due.due("the LOAD STORED", x.flight(0, 0, 0, what), -2);
            Due.due("the LOAD MISSED", x.flight(1, 1, 0, what), -2);
        }
        Due.due("both at the foot", x.flight(2, 0, 0, 1), 1);
    }

    private static void noSuchFlights() {
        Due.says("16: NONE: no such ones");
        SilkRise x = Due.with("load a 5 1 1; load b 9 1 1; load c 5 1 1; silk s 9 0; silk t 9 0; silk u 9 0; hook h 5 0 1; rim 8;");
        for (int times = 0; times < 2; times++) {
            for (int i : OTHERS) {
                Due.due("flight(" + i + ", 0, 0, 0)", x.flight(i, 0, 0, 0), -1);
                Due.due("flight(0, " + i + ", 0, 0)", x.flight(0, i, 0, 0), -1);
                Due.due("flight(0, 0, " + i + ", 1)", x.flight(0, 0, i > 0 && i < 25 ? 25 : i, 1), -1);
                Due.due("flight(0, 0, 0, " + i + ")", x.flight(0, 0, 0, i == 3 ? 4 : i), -1);
            }
            for (int w : new int[] {-1, 25, 26, 48, 72}) {
                Due.due("flight(0, 0, " + w + ", 0)", x.flight(0, 0, w, 0), -1);
            }
            Due.says("Where NONE and -2 could both be told, it is NONE");
            x.tie(0, 0);
        }
    }

    private static void nothingHappens() {
        Due.says("III. What would be (nothing happens)");
        SilkRise x = Due.with("load a 5 1 9; load b 9 1 5; load c 6 2 7; silk s 9 0; silk t 9 1; hook h 5 0 1; hook g 7 2 1; rim 16; gusts 50; wind = hour / 20;");
        x.tie(1, 1);
        x.hours(1);
        x.tell(9, 1, 5, 1, 5);
        int[] ahead = Due.seen(x);
        for (int what = 0; what < 4; what++) {
            x.flight(0, 0, what, what);
        }
        x.soon(0, 0, 0);
        x.patches(0, 0, 1);
        x.near(5);
        x.lifts(0, 5);
        x.fill(-1);
        x.fill(0);
        x.fewest();
        x.waits(0, 0, 0);
        x.waits(0, 0, 1);
        x.then(1, 20, 0);
        x.earns(72);
        x.year(1, 72, 20);
        x.pulls(1, 0);
        x.sure(1);
        x.tells(0, 0, 0);
        Due.asSeen("what would be", x, ahead);
    }

    private static void soonFewest() {
        Due.says("17: SOON: the fewest w (0 .. 24) by which it is hooked by that one");
        for (int from = 0; from <= 26; from++) {
            SilkRise x = Due.with("load a 5 1 1; silk s 9 0; hook h 5 0 1; hook g 6 0 1; rim 8; wind = if hour + day * 24 < " + from + " then 0 else 1;");
            Due.due("soon(0, 0, 0)", x.soon(0, 0, 0), from == 0 ? -2 : 0);
            Due.due("soon(0, 0, 1), from " + from, x.soon(0, 0, 1), from <= 24 ? from : -2);
            if (from > 0) {
                x.hours(1);
                Due.due("an hour on, from " + from, x.soon(0, 0, 1), from <= 25 ? from - 1 : -2);
            }
        }
    }

    private static void soonNot() {
        Due.says("17: -2: not");
        Due.due("MISSED", Due.with("load a 5 1 1; silk s 9 0; hook h 6 0 1; rim 8;").soon(0, 0, 0), -2);
        Due.due("LANDED", Due.with("load a 5 1 1; silk s 1 0; hook h 5 5 1; rim 8;").soon(0, 0, 0), -2);
        Due.due("not in 48", Due.with("load a 5 1 1; silk s 2 0; hook h 5 5 1; rim 49;").soon(0, 0, 0), -2);
        Due.due("in 48", Due.with("load a 5 1 1; silk s 2 0; hook h 5 5 1; rim 48;").soon(0, 0, 0), 0);
        SilkRise x = Due.with("load a 5 1 1; silk s 9 0; hook h 5 5 1; hook g 5 5 1; rim 8;");
        Due.due("by the first of alike ones", x.soon(0, 0, 0), 0);
        Due.due("by the second of alike ones", x.soon(0, 0, 1), -2);
    }

    private static void soonNoSuchOnes() {
        Due.says("17: NONE: no such ones, one is not at the foot");
        SilkRise x = Due.with("load a 5 1 1; load b 5 1 1; load c 9 1 1; silk s 9 0; silk t 9 0; silk u 9 0; hook h 5 0 1; hook g 6 0 1; hook f 7 0 1; rim 8;");
        for (int i : OTHERS) {
            Due.due("soon(" + i + ", 0, 0)", x.soon(i, 0, 0), -1);
            Due.due("soon(0, " + i + ", 0)", x.soon(0, i, 0), -1);
            Due.due("soon(0, 0, " + i + ")", x.soon(0, 0, i), -1);
        }
        // -2 names the HOOK of one that is not hooked; it is no HOOK.
        Due.due("soon(2, 0, -2)", x.soon(2, 0, -2), -1);
        x.tie(0, 0);
        Due.due("the LOAD in the air", x.soon(0, 1, 0), -1);
        Due.due("the SILK in the air", x.soon(1, 0, 0), -1);
        Due.due("others", x.soon(1, 1, 0), 0);
        x.hours(1);
        Due.due("the LOAD STORED", x.soon(0, 0, 0), -1);
        x.tie(2, 0);
        x.hours(1);
        Due.due("the LOAD MISSED", x.soon(2, 0, 0), -1);
    }

    private static void patchesNearest() {
        Due.says("18: PATCHES: the PULL nearest to the SILK's");
        for (int pull = -3; pull <= 3; pull++) {
            SilkRise x = Due.with("load a 9 1 1; silk s 9 " + pull + "; hook h 6 0 1; hook g 7 0 1; hook f 9 0 1; hook e 11 0 1; hook d 12 0 1; rim 8;");
            int[] due = {-3, -2, 0, 2, 3};
            for (int hook = 0; hook < 5; hook++) {
                Due.due("from PULL " + pull + " to HOOK " + hook, x.patches(0, 0, hook), due[hook]);
            }
            // All of them bring it to one that reaches so far.
            x.move(2, 0);
            SilkRise wide = Due.with("load a 9 1 1; silk s 9 " + pull + "; hook h 9 5 1; rim 8;");
            Due.due("its own PULL " + pull, wide.patches(0, 0, 0), pull);
            SilkRise two = Due.with("load a 9 1 1; silk s 9 " + pull + "; hook h 9 1 1; hook g 11 1 1; rim 8;");
            // By -1 .. 0 to the first one, by 1 too (of alike ones the first), by 2 and 3 to the second.
            Due.due("nearest from " + pull, two.patches(0, 0, 0), Math.max(-1, Math.min(1, pull)));
            Due.due("nearest from " + pull, two.patches(0, 0, 1), Math.max(2, pull));
        }
    }

    private static void patchesLesserOfTwo() {
        Due.says("18: of two the lesser one");
        SilkRise x = Due.with("load a 9 1 1; silk s 9 0; hook h 9 5 1; hook g 9 0 1; rim 8;");
        Due.due("0 goes to the first of alike ones", x.patches(0, 0, 0), 0);
        x = Due.with("load a 9 1 1; silk s 9 0; rim 8; hook h 10 2 1; hook g 9 0 1; hook f 8 0 1;");
        // -1 to f, 0 to g; 1, 2 and 3 to h.
        Due.due("1", x.patches(0, 0, 0), 1);
        x = Due.with("load a 9 1 1; silk s 9 0; rim 8; hook h 9 0 1; hook g 9 1 1;");
        Due.due("-1 or 1", x.patches(0, 0, 1), -1);
        x = Due.with("load a 9 1 1; silk s 9 1; rim 8; hook h 10 0 1; hook g 10 1 1;");
        Due.due("0 or 2", x.patches(0, 0, 1), 0);
        x = Due.with("load a 9 1 1; silk s 9 0; rim 8; hook h 9 1 1; hook g 9 2 1;");
        Due.due("-2 or 2", x.patches(0, 0, 1), -2);
        x = Due.with("load a 9 1 1; silk s 9 0; rim 8; hook h 9 2 1; hook g 9 3 1;");
        Due.due("-3 or 3", x.patches(0, 0, 1), -3);
        x = Due.with("load a 9 1 1; silk s 9 2; rim 8; hook h 11 1 1; hook g 11 3 1;");
        Due.due("0, as 4 is none", x.patches(0, 0, 1), 0);
        x = Due.with("load a 9 1 1; silk s 9 -2; rim 8; hook h 7 1 1; hook g 7 3 1;");
        Due.due("0, as -4 is none", x.patches(0, 0, 1), 0);
    }

    private static void patchesNone() {
        Due.says("18: -100: none; PULL -3 .. 3");
        SilkRise x = Due.with("load a 9 1 1; silk s 9 3; silk t 9 -3; hook h 5 0 1; hook g 13 0 1; rim 8;");
        for (int silk = 0; silk < 2; silk++) {
            Due.due("PULL -4 is none", x.patches(0, silk, 0), -100);
            Due.due("PULL 4 is none", x.patches(0, silk, 1), -100);
        }
        x.move(0, 6);
        x.move(1, 12);
        Due.due("from -3 to 3", x.patches(0, 1, 1), 3);
        Due.due("from 3 to -3", x.patches(0, 0, 0), -3);
        Due.due("nothing is PATCHED", x.pull(0), 3);
        Due.due("LANDED", Due.with("load a 9 1 1; silk s 1 0; hook h 9 5 1;").patches(0, 0, 0), -100);
        Due.due("not in 48", Due.with("load a 9 1 1; silk s 2 0; hook h 9 5 1; rim 49;").patches(0, 0, 0), -100);
        Due.due("in 48", Due.with("load a 9 1 1; silk s 2 0; hook h 9 5 1; rim 48;").patches(0, 0, 0), 0);
        // Begun now, not later.
        x = Due.with("load a 9 1 1; silk s 9 0; hook h 9 0 1; rim 8; wind = if hour < 1 then 2 else 0;");
        Due.due("in hour 0", x.patches(0, 0, 0), -2);
        x.hours(1);
        Due.due("in hour 1", x.patches(0, 0, 0), 0);
    }

    private static void patchesNoSuchOnes() {
        Due.says("18: -1000: no such ones, one is not at the foot");
        SilkRise x = Due.with("load a 5 1 1; load b 5 1 1; load c 9 1 1; silk s 9 0; silk t 9 0; silk u 9 0; hook h 5 0 1; hook g 6 0 1; hook f 7 0 1; rim 8;");
        for (int i : OTHERS) {
            Due.due("patches(" + i + ", 0, 0)", x.patches(i, 0, 0), -1000);
            Due.due("patches(0, " + i + ", 0)", x.patches(0, i, 0), -1000);
            Due.due("patches(0, 0, " + i + ")", x.patches(0, 0, i), -1000);
        }
        x.tie(0, 0);
        Due.due("the LOAD in the air", x.patches(0, 1, 0), -1000);
        Due.due("the SILK in the air", x.patches(1, 0, 0), -1000);
        Due.due("others", x.patches(1, 1, 1), 1);
        x.hours(1);
        Due.due("the LOAD STORED", x.patches(0, 0, 0), -1000);
        x.tie(2, 0);
        x.hours(1);
        Due.due("the LOAD MISSED", x.patches(2, 0, 0), -1000);
    }

    private static void near() {
        Due.says("19: The HOOK nearest to X (0 .. 19) within its REACH, of alike ones the first; -2: none; NONE: no such X");
        SilkRise x = Due.with("hook h 2 2 1; hook g 6 2 1; hook f 12 0 1; hook e 19 5 1; hook d 13 4 1;");
        int[] due = {0, 0, 0, 0, 0, 1, 1, 1, 1, 4, 4, 4, 2, 4, 4, 4, 3, 3, 3, 3};
        for (int at = 0; at < 20; at++) {
            Due.due("near(" + at + ")", x.near(at), due[at]);
        }
        for (int at : new int[] {-1, -2, 20, 21, 100, Integer.MIN_VALUE, Integer.MAX_VALUE}) {
            Due.due("near(" + at + ")", x.near(at), -1);
            Due.due("near(" + at + ") without HOOKS", new SilkRise().near(at), -1);
        }
        // Its HANDS are of no weight, nor what it hooked.
        x = Due.with("load a 5 1 1; silk s 9 0; hook h 5 0 1; hook g 4 2 1; rim 8;");
        x.tie(0, 0);
        x.hours(1);
        Due.due("near(5) behind hooking", x.near(5), 0);
        for (int reach = 0; reach <= 5; reach++) {
            SilkRise ends = Due.with("hook h 0 " + reach + " 1; hook g 19 " + reach + " 1;");
            for (int at = 0; at < 20; at++) {
                Due.due("near(" + at + ") by REACH " + reach, ends.near(at), at <= reach ? 0 : at >= 19 - reach ? 1 : -2);
            }
        }
    }

    private static void liftsHeaviest() {
        Due.says("20: LIFTS: the heaviest WEIGHT (1 .. 9)");
        for (int size = 1; size <= 9; size++) {
            SilkRise x = Due.with("silk s " + size + " 0; rim 10;");
            Due.due("lifts(0, 0) by SIZE " + size, x.lifts(0, 0), size == 1 ? -2 : size - 1);
            Due.due("lifts(0, 19) by SIZE " + size, x.lifts(0, 19), size == 1 ? -2 : size - 1);
        }
        Due.due("9", Due.with("silk s 1 0; lift = 1;").lifts(0, 5), 9);
        Due.due("1", Due.with("silk s 1 0; lift = if weight < 2 then 1 else 0;").lifts(0, 5), 1);
        Due.due("the heaviest, not the first", Due.with("silk s 1 0; lift = if weight < 3 then 1 else if weight < 6 then 0 else if weight < 8 then 1 else 0;")
                .lifts(0, 5), 7);
        // In 48 HOURS, as each FLIGHT.
        Due.due("in 48", Due.with("silk s 9 0; rim 48; lift = if weight < 5 then 2 else 1;").lifts(0, 5), 9);
        Due.due("not in 48", Due.with("silk s 9 0; rim 49; lift = if weight < 5 then 2 else 1;").lifts(0, 5), 4);
        // Begun now, at X, by its PULL.
        SilkRise x = Due.with("silk s 9 2; rim 16; lift = if across < 10 then size - weight else 0 - 9;");
        Due.due("lifts(0, 9)", x.lifts(0, 9), -2);
        Due.due("lifts(0, 7)", x.lifts(0, 7), 1);
        Due.due("lifts(0, 5)", x.lifts(0, 5), 3);
        Due.due("lifts(0, 10)", x.lifts(0, 10), -2);
        x = Due.with("load a 5 1 1; silk s 9 0; rim 8; hook h 5 0 1; lift = size - weight - hour + stored + up;");
        // By 6 it rises by 4, 3 and 2, by 7 by 3, 2 and 1.
        Due.due("now", x.lifts(0, 0), 6);
        x.hours(5);
        // By 1 it rises by 4, 3 and 2, by 2 by 3, 2 and 1.
        Due.due("five hours on", x.lifts(0, 0), 1);
        x.undo();
        x.tie(0, 0);
        x.hours(1);
        Due.due("STORED", x.count(6), 1);
        // stored is 1 and the hour 1: as it was.
        Due.due("one STORED", x.lifts(0, 0), 6);
    }

    private static void liftsNone() {
        Due.says("20: -2: none");
        Due.due("LIFT 0", Due.with("silk s 1 0;").lifts(0, 5), -2);
        Due.due("LIFT below 0", Due.with("silk s 9 0; lift = 0 - 1;").lifts(0, 5), -2);
        Due.due("not over", Due.with("silk s 9 0; lift = if high < 1 then 1 else 0;").lifts(0, 5), -2);
        Due.due("RIM 1", Due.with("silk s 9 0; rim 1; lift = if high < 1 then 1 else 0;").lifts(0, 5), 9);
    }

    private static void liftsHookedOrNot() {
        Due.says("20: brings to the RIM, hooked or not");
        SilkRise x = Due.with("silk s 9 0; rim 8; hook h 5 1 1;");
        for (int at = 3; at < 8; at++) {
            Due.due("lifts(0, " + at + ")", x.lifts(0, at), 8);
        }
        Due.due("without a HOOK", Due.with("silk s 9 0; rim 8;").lifts(0, 5), 8);
    }

    private static void liftsNoSuchOnes() {
        Due.says("20: NONE: no such ones, the SILK is not at the foot");
        SilkRise x = Due.with("load a 5 1 1; silk s 9 0; silk t 1 0; silk u 9 0; rim 8;");
        for (int i : OTHERS) {
            Due.due("lifts(" + i + ", 5)", x.lifts(i, 5), -1);
        }
        for (int at : new int[] {-1, -2, 20, 21, 100, Integer.MIN_VALUE, Integer.MAX_VALUE}) {
            Due.due("lifts(0, " + at + ")", x.lifts(0, at), -1);
            Due.due("lifts(1, " + at + "), none", x.lifts(1, at), -1);
        }
        x.tie(0, 0);
        Due.due("in the air", x.lifts(0, 5), -1);
        Due.due("another one", x.lifts(2, 5), 8);
        x.hours(1);
        Due.due("it came back", x.lifts(0, 5), 8);
    }
}
