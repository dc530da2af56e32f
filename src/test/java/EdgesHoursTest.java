/** Each boundary of AN HOUR: rising, going aside, the RIM, HOOKS, landing. */
public final class EdgesHoursTest {
    public static void main(String[] args) {
        itMayGoDown();
        asideByPullAndWind();
        xStays();
        allAsTheHourBegan();
        asHighAsTheRim();
        withinItsReach();
        theNearest();
        theFirstOfAlikeOnes();
        hooked();
        hands();
        handsAreOfAnHour();
        loadByLoad();
        missed();
        paysAsTheHourBegan();
        lands();
        storedAndMissedStay();
        fiveInTheAir();
        Due.end("EdgesHoursTest");
    }

    private static void is(String when, SilkRise x, int load, int how, int at, int high) {
        Due.due(when + ": how LOAD " + load + " is", x.load(load, 3), how);
        Due.due(when + ": X of LOAD " + load, x.load(load, 0), at);
        Due.due(when + ": how high LOAD " + load + " is", x.load(load, 4), high);
    }

    private static void itMayGoDown() {
        Due.says("rises by what LIFT tells (above the foot, 0, it may go down)");
        SilkRise x = Due.with("load a 5 1 1; silk s 9 0; rim 99; lift = if hour < 1 then 5 else if hour < 4 then 0 - 1 else if hour < 5 then 0"
                + " else 0 - 2;");
        x.tie(0, 0);
        int[] highs = {5, 4, 3, 2, 2};
        for (int high : highs) {
            x.hours(1);
            is("above the foot", x, 0, 1, 5, high);
        }
        x.hours(1);
        is("0 high", x, 0, 0, 5, 0);
        x.hours(5);
        is("at the foot", x, 0, 0, 5, 0);
    }

    private static void asideByPullAndWind() {
        Due.says("goes aside by its SILK's PULL, by what WIND tells");
        for (int pull = -3; pull <= 3; pull++) {
            for (int wind = -3; wind <= 3; wind++) {
                SilkRise x = Due.with("load a 9 1 1; silk s 2 " + pull + "; rim 99; wind = " + (wind + 3) + " - 3;");
                x.tie(0, 0);
                x.hours(1);
                is("PULL " + pull + ", WIND " + wind, x, 0, 1, 9 + pull + wind, 1);
            }
        }
        // Its own SILK's one, of two that go up.
        SilkRise x = Due.with("load a 9 1 1; load b 9 1 1; silk s 2 2; silk t 3 -1; rim 99;");
        x.tie(0, 1);
        x.tie(1, 0);
        x.hours(1);
        is("by the second SILK", x, 0, 1, 8, 2);
        is("by the first SILK", x, 1, 1, 11, 1);
    }

    private static void xStays() {
        Due.says("X stays 0 .. 19");
        for (int at = 0; at <= 19; at++) {
            SilkRise x = Due.with("load a " + at + " 1 1; load b " + at + " 1 1; silk s 2 3; silk t 2 -3; rim 99;");
            x.tie(0, 0);
            x.tie(1, 1);
            x.hours(1);
            is("PULL 3 from " + at, x, 0, 1, Math.min(19, at + 3), 1);
            is("PULL -3 from " + at, x, 1, 1, Math.max(0, at - 3), 1);
        }
        SilkRise x = Due.with("load a 6 1 1; load b 13 1 1; silk s 2 -3; silk t 2 3; rim 99; gusts 100; wind = if across < 10 then 0 - 3 else 3;");
        x.tie(0, 0);
        x.tie(1, 1);
        x.hours(1);
        is("7 aside, all together", x, 0, 1, 0, 1);
        is("7 aside, all together", x, 1, 1, 19, 1);
        x.hours(40);
        is("it stays", x, 0, 1, 0, 41);
        is("it stays", x, 1, 1, 19, 41);
        // What goes one way and the other is put together first.
        x = Due.with("load a 0 1 1; load b 19 1 1; silk s 2 -3; silk t 2 3; rim 99; wind = if across < 10 then 3 else 0 - 3;");
        x.tie(0, 0);
        x.tie(1, 1);
        x.hours(1);
        is("-3 and 3", x, 0, 1, 0, 1);
        is("3 and -3", x, 1, 1, 19, 1);
        x = Due.with("load a 0 1 1; load b 19 1 1; silk s 2 3; silk t 2 -3; rim 99; wind = if across < 10 then 0 - 3 else 3;");
        x.tie(0, 0);
        x.tie(1, 1);
        x.hours(1);
        is("3 and -3", x, 0, 1, 0, 1);
        is("-3 and 3", x, 1, 1, 19, 1);
        x = Due.with("load a 0 1 1; load b 19 1 1; silk s 2 2; silk t 2 -2; rim 99; gusts 100; wind = if across < 10 then 0 - 2 else 2;");
        x.tie(0, 0);
        x.tie(1, 1);
        x.hours(1);
        is("2 and -2 and a GUST", x, 0, 1, 0, 1);
        is("-2 and 2 and a GUST", x, 1, 1, 19, 1);
    }

    private static void allAsTheHourBegan() {
        Due.says("all by how all was as the hour began");
        // LIFT and WIND look at how high and across it was, not at what came of it in this hour.
        SilkRise x = Due.with("load a 5 1 1; silk s 9 1; rim 99; lift = if high < 1 then 2 else across;"
                + "wind = if 1 < high then 2 else 0;");
        x.tie(0, 0);
        x.hours(1);
        is("0 high and at 5", x, 0, 1, 6, 2);
        x.hours(1);
        is("2 high and at 6", x, 0, 1, 9, 8);
        // One that comes to the foot or to the RIM in this hour is up in it for the others still.
        x = Due.with("load a 5 1 1; load b 5 1 1; silk s 9 0; silk t 5 0; rim 9; lift = if size < 6 then 0 else 4 + up * 3;");
        x.tie(0, 1);
        x.tie(1, 0);
        x.hours(1);
        is("the one LANDS", x, 0, 0, 5, 0);
        is("up was 2", x, 1, 3, 5, 0);
        x = Due.with("load a 5 1 1; load b 5 2 1; silk s 9 0; silk t 9 0; rim 9; hook h 5 0 9; lift = if weight < 2 then 9 else 3 + stored * 6;");
        x.tie(0, 0);
        x.tie(1, 1);
        x.hours(1);
        is("the first is hooked", x, 0, 2, 5, 0);
        is("stored was 0", x, 1, 1, 5, 3);
        x.hours(1);
        is("stored was 1", x, 1, 2, 5, 0);
        // The hour, too, is the one that began.
        x = Due.with("load a 5 1 1; silk s 9 0; rim 99; lift = hour + 1; wind = day;");
        x.hours(23);
        x.tie(0, 0);
        x.hours(1);
        is("LIFT 9 (24), WIND 0", x, 0, 1, 5, 9);
        x.hours(1);
        is("LIFT 1, WIND 1", x, 0, 1, 6, 10);
    }

    private static void asHighAsTheRim() {
        Due.says("if it is as high as the RIM, or higher");
        for (int rim = 1; rim <= 12; rim++) {
            SilkRise x = Due.with("load a 5 1 7; silk s 7 0; hook h 5 0 1; rim " + rim + ";");
            x.tie(0, 0);
            x.hours(1);
            is("6 high, RIM " + rim, x, 0, rim <= 6 ? 2 : 1, 5, rim <= 6 ? 0 : 6);
            x.hours(1);
            Due.due("12 high, RIM " + rim, x.load(0, 3), 2);
            Due.due("earned", x.count(8), 7);
        }
        SilkRise x = Due.with("load a 5 1 7; silk s 2 0; hook h 5 0 1; rim 99;");
        x.tie(0, 0);
        x.hours(72);
        x.hours(26);
        is("98 high, RIM 99", x, 0, 1, 5, 98);
        x.hours(1);
        is("99 high, RIM 99", x, 0, 2, 5, 0);
        x = Due.with("load a 5 1 7; silk s 9 0; hook h 5 0 1; rim 1; lift = 9;");
        x.tie(0, 0);
        x.hours(1);
        is("9 high, RIM 1", x, 0, 2, 5, 0);
    }

    private static void withinItsReach() {
        Due.says("the HOOK nearest to its X within its REACH");
        for (int reach = 0; reach <= 5; reach++) {
            for (int away = -6; away <= 6; away++) {
                SilkRise x = Due.with("load a " + (9 + away) + " 1 7; silk s 9 0; hook h 9 " + reach + " 1; rim 8;");
                x.tie(0, 0);
                x.hours(1);
                Due.due("REACH " + reach + ", away " + away, x.load(0, 3), Math.abs(away) <= reach ? 2 : 3);
                Due.due("near(" + (9 + away) + ")", x.near(9 + away), Math.abs(away) <= reach ? 0 : -2);
            }
        }
        // It is looked for from where it has come to, not from where it was.
        SilkRise x = Due.with("load a 5 1 7; silk s 9 3; hook h 5 2 1; hook g 8 0 1; rim 8;");
        x.tie(0, 0);
        x.hours(1);
        Due.due("at 8", x.load(0, 6), 1);
    }

    private static void theNearest() {
        Due.says("the HOOK nearest to its X");
        SilkRise x = Due.with("load a 9 1 7; silk s 9 0; hook h 4 5 9; hook g 13 5 9; hook f 6 3 9; hook e 11 2 9; hook d 8 0 9; rim 8;");
        int[] moves = {-1, 3, 2, 1, 0};
        int[] due = {3, 2, 1, 0, -2};
        for (int i = 0; i < 5; i++) {
            // Beyond its REACH, if there is such a one.
            x.move(moves[i], 19);
            x.tie(0, 0);
            x.hours(1);
            Due.due("hooked by", x.load(0, 6), due[i]);
            x.undo();
            x.undo();
        }
        // The nearest one may have too short a REACH: then the next one.
        x = Due.with("load a 9 1 7; silk s 9 0; hook h 10 0 9; hook g 14 5 9; rim 8;");
        x.tie(0, 0);
        x.hours(1);
        Due.due("the nearer one does not reach", x.load(0, 6), 1);
    }

    private static void theFirstOfAlikeOnes() {
        Due.says("of alike ones the first");
        SilkRise x = Due.with("load a 9 1 7; silk s 9 0; hook h 14 4 9; hook g 11 2 9; hook f 7 2 9; hook e 7 5 9; hook d 11 5 9; rim 8;");
        int[] due = {1, 2, 3, 4, -2};
        for (int i = 0; i < 5; i++) {
            x.tie(0, 0);
            x.hours(1);
            Due.due("hooked by", x.load(0, 6), due[i]);
            x.undo();
            x.undo();
            if (due[i] >= 0) {
                x.move(due[i], 0);
            }
        }
    }

    private static void hooked() {
        Due.says("hooks it: it is STORED, what PAYS tells is earned; either way its SILK is at the foot");
        SilkRise x = Due.with("load a 1 1 5; load b 1 1 6; load c 1 1 7; load d 1 1 8; load e 1 1 9; load f 1 1 10; load g 9 1 40; silk s 9 0;"
                + "hook h 9 0 1; hook i 1 0 1; rim 8;");
        int earned = 0;
        for (int load = 6; load >= 0; load--) {
            x.tie(load, 0);
            Due.due("the SILK is up", x.silk(0, 1), load);
            Due.due("the LOAD's SILK", x.load(load, 5), 0);
            Due.due("no HOOK yet", x.load(load, 6), -2);
            x.hours(1);
            earned += load == 6 ? 40 : 5 + load;
            Due.due("STORED", x.load(load, 3), 2);
            Due.due("earned", x.count(8), earned);
            Due.due("the SILK is at the foot", x.silk(0, 1), -2);
            Due.due("no SILK", x.load(load, 5), -2);
            Due.due("its HOOK", x.load(load, 6), load == 6 ? 0 : 1);
            Due.due("how often", x.silk(0, 2), 7 - load);
        }
        Due.due("hook(0, 3)", x.hook(0, 3), 64);
        Due.due("hook(1, 3)", x.hook(1, 3), 63);
        Due.due("count(6)", x.count(6), 127);
    }

    private static void hands() {
        Due.says("that has hooked less than HANDS in this hour");
        for (int hands = 1; hands <= 9; hands++) {
            SilkRise x = Due.with("load a 9 1 1; load b 9 1 1; load c 9 1 1; load d 9 1 1; load e 9 1 1; silk s 9 0; silk t 9 0; silk u 9 0; silk v 9 0;"
                    + "silk w 9 0; rim 8; hook h 9 0 " + hands + ";");
            for (int i = 0; i < 5; i++) {
                x.tie(i, i);
            }
            x.hours(1);
            int most = Math.min(5, hands);
            Due.due("STORED by HANDS " + hands, x.count(6), (1 << most) - 1);
            Due.due("MISSED by HANDS " + hands, x.count(7), 31 & ~((1 << most) - 1));
            Due.due("hook(0, 3)", x.hook(0, 3), (1 << most) - 1);
            Due.due("earned", x.count(8), most);
            Due.due("all SILKS at the foot", x.silk(4, 1), -2);
        }
        // One whose HANDS are full is passed over for the next nearest.
        SilkRise x = Due.with("load a 9 1 1; load b 9 1 1; load c 9 1 1; load d 9 1 1; silk s 9 0; silk t 9 0; silk u 9 0; silk v 9 0;"
                + "rim 8; hook h 10 1 1; hook g 9 0 2;");
        for (int i = 0; i < 4; i++) {
            x.tie(i, i);
        }
        x.hours(1);
        int[] due = {1, 1, 0, -2};
        for (int i = 0; i < 4; i++) {
            Due.due("its HOOK", x.load(i, 6), due[i]);
        }
    }

    private static void handsAreOfAnHour() {
        Due.says("in this hour");
        SilkRise x = Due.with("load a 9 1 1; load b 9 1 1; load c 9 1 1; silk s 9 0; silk t 5 0; silk u 3 0; rim 8; hook h 9 0 1;");
        for (int i = 0; i < 3; i++) {
            x.tie(i, i);
        }
        x.hours(4);
        Due.due("one in each of three hours", x.count(6), 7);
    }

    private static void loadByLoad() {
        Due.says("Then LOAD by LOAD in the air");
        // The one nearer to the HOOK, the dearer one, the one tied first, the one higher: none of it counts.
        SilkRise x = Due.with("load a 8 1 1; load b 9 1 99; silk s 9 0; silk t 9 0; rim 8; hook h 9 1 1;");
        x.tie(1, 0);
        x.tie(0, 1);
        x.hours(1);
        Due.due("the first LOAD", x.count(6), 1);
        Due.due("the second LOAD", x.count(7), 2);
        // One LOAD at the foot or STORED is not in its way.
        x = Due.with("load a 9 1 1; load b 9 1 2; load c 9 1 4; silk s 9 0; silk t 9 0; rim 8; hook h 9 1 1;");
        x.tie(2, 0);
        x.hours(1);
        x.tie(1, 1);
        x.hours(1);
        Due.due("STORED", x.count(6), 6);
        Due.due("at the foot", x.count(4), 1);
    }

    private static void missed() {
        Due.says("if there is none, it is MISSED");
        SilkRise x = Due.with("load a 9 1 50; silk s 9 1; rim 8;");
        x.tie(0, 0);
        x.hours(1);
        int[] due = {10, 1, 50, 3, 0, -2, -2};
        for (int what = 0; what < 7; what++) {
            Due.due("load(0, " + what + ")", x.load(0, what), due[what]);
        }
        Due.due("the SILK is at the foot", x.silk(0, 1), -2);
        Due.due("nothing earned", x.count(8), 0);
        Due.due("count(7)", x.count(7), 1);
        Due.due("count(4)", x.count(4), 0);
    }

    private static void paysAsTheHourBegan() {
        Due.says("what PAYS tells (as the hour began) is earned");
        SilkRise x = Due.with("load a 9 1 1; load b 9 2 1; load c 9 3 1; silk s 9 0; silk t 9 0; silk u 9 0; rim 6; hook h 9 0 9;"
                + "pays = 10 * up + 3 * stored + hour + day * 20 + weight;");
        for (int i = 0; i < 3; i++) {
            x.tie(i, i);
        }
        x.hours(1);
        Due.due("three by hour 0, up 3, stored 0", x.count(8), 31 + 32 + 33);
        x = Due.with("load a 9 1 1; silk s 9 0; rim 16; hook h 9 0 9; pays = hour + day * 40;");
        x.hours(22);
        x.tie(0, 0);
        x.hours(2);
        Due.due("hour 23, day 0", x.count(8), 23);
    }

    private static void lands() {
        Due.says("Else if it is 0 high or less, it LANDS: it is at the foot, at its X, its SILK too");
        for (int lift = -2; lift <= 1; lift++) {
            SilkRise x = Due.with("load a 9 1 50; silk s 9 2; hook h 11 5 9; lift = " + (lift + 2) + " - 2;");
            x.tie(0, 0);
            x.hours(1);
            is("LIFT " + lift, x, 0, lift > 0 ? 1 : 0, 11, Math.max(lift, 0));
            Due.due("its SILK", x.load(0, 5), lift > 0 ? 0 : -2);
            Due.due("the SILK", x.silk(0, 1), lift > 0 ? 0 : -2);
        }
        int[] downs = {3, 4, 5, 9};
        for (int down : downs) {
            SilkRise x = Due.with("load a 9 1 50; silk s 9 2; hook h 11 5 9; lift = if hour < 1 then 4 else 0 - " + down + ";");
            x.tie(0, 0);
            x.hours(2);
            is("4 high, " + down + " down", x, 0, down < 4 ? 1 : 0, 13, Math.max(4 - down, 0));
            Due.due("nothing earned", x.count(8), 0);
            Due.due("nothing MISSED", x.count(7), 0);
            Due.due("no HOOK", x.load(0, 6), -2);
        }
        // It can be tied again where it is, by its SILK.
        SilkRise x = Due.with("load a 9 1 50; silk s 9 2; lift = 0;");
        for (int i = 1; i <= 6; i++) {
            Due.due("tie()", x.tie(0, 0), 1);
            x.hours(1);
            is("LANDED", x, 0, 0, Math.min(19, 9 + 2 * i), 0);
            Due.due("how often", x.silk(0, 2), i);
            Due.due("paid", x.count(9), i);
        }
    }

    private static void storedAndMissedStay() {
        Due.says("STORED and MISSED LOADS go through HOURS as they are");
        SilkRise x = Due.with("load a 9 1 50; load b 5 1 1; load c 3 1 1; silk s 9 1; rim 8; hook h 10 0 1; wind = day;");
        x.tie(0, 0);
        x.hours(1);
        x.tie(1, 0);
        x.hours(1);
        x.hours(72);
        is("STORED", x, 0, 2, 10, 0);
        is("MISSED", x, 1, 3, 6, 0);
        is("at the foot", x, 2, 0, 3, 0);
        Due.due("earned once", x.count(8), 50);
        Due.due("hooked", x.hook(0, 3), 1);
        Due.due("its HOOK", x.load(0, 6), 0);
    }

    private static void fiveInTheAir() {
        Due.says("each LOAD in the air rises");
        SilkRise x = Due.with("load a 1 1 1; load b 2 2 1; load c 3 3 1; load d 4 4 1; load e 5 5 1; load f 6 6 1; load g 7 7 1; silk s 9 0; silk t 9 1;"
                + "silk u 9 2; silk v 9 3; silk w 9 -1; rim 99;");
        for (int i = 0; i < 5; i++) {
            x.tie(i + 2, i);
        }
        Due.due("count(5)", x.count(5), 124);
        Due.due("count(4)", x.count(4), 3);
        x.hours(2);
        int[] highs = {0, 0, 12, 10, 8, 6, 4};
        int[] ats = {1, 2, 3, 6, 9, 12, 5};
        for (int load = 0; load < 7; load++) {
            is("behind two hours", x, load, load < 2 ? 0 : 1, ats[load], highs[load]);
        }
    }
}
