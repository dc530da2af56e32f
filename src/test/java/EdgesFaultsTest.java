/** Each boundary of the FAULTS: how many may stand, which numbers may, which FAULT is the first. */
public final class EdgesFaultsTest {
    public static void main(String[] args) {
        numbersOfLoads();
        numbersOfSilks();
        numbersOfHooks();
        numbersOfAll();
        numbersOfLaws();
        oneMoreOfASort();
        aFifthIf();
        aSeventhWithin();
        the401stToken();
        twice();
        theFirstByPlace();
        lateOnesOnlyWithoutOthers();
        ofOnePlaceTheLeast();
        Due.end("EdgesFaultsTest");
    }

    /** That a number may be from least to most, and no other one: at the byte where it stands. */
    private static void bounds(String ahead, String behind, int least, int most) {
        for (int n = 0; n <= Math.min(most, 120) + 3; n++) {
            boolean may = n >= least && n <= most;
            Due.fault(ahead + n + behind, may ? 0 : 5, may ? -1 : ahead.length());
        }
        for (int n : new int[] {100, 101, 127, 128, 255, 256, 999, 1000, 9998, 9999}) {
            boolean may = n >= least && n <= most;
            Due.fault(ahead + n + behind, may ? 0 : 5, may ? -1 : ahead.length());
        }
    }

    private static void numbersOfLoads() {
        Due.says("LOADS (X 0 .. 19, WEIGHT 1 .. 9, PRICE 0 .. 99); 5 WRONG (at the INT)");
        bounds("load a ", " 1 1;", 0, 19);
        bounds("load a 1 ", " 1;", 1, 9);
        bounds("load a 1 1 ", ";", 0, 99);
        SilkRise x = Due.with("load a 0 1 0;load b 19 9 99;");
        int[][] due = {{0, 1, 0}, {19, 9, 99}};
        for (int load = 0; load < 2; load++) {
            for (int what = 0; what < 3; what++) {
                Due.due("load(" + load + ", " + what + ")", x.load(load, what), due[load][what]);
            }
        }
    }

    private static void numbersOfSilks() {
        Due.says("SILKS (SIZE 1 .. 9, PULL -3 .. 3); 5 WRONG (at the INT)");
        bounds("silk a ", " 1;", 1, 9);
        bounds("silk a 1 ", ";", 0, 3);
        bounds("silk a 1 -", ";", 0, 3);
        bounds("silk a 1 -  ", ";", 0, 3);
        SilkRise x = Due.with("silk a 1 -3;silk b 9 3;silk c 5 -0;silk d 5 0;");
        int[] due = {-3, 3, 0, 0};
        for (int silk = 0; silk < 4; silk++) {
            Due.due("pull(" + silk + ")", x.pull(silk), due[silk]);
        }
        Due.due("SIZE", x.silk(0, 0), 1);
        Due.due("SIZE", x.silk(1, 0), 9);
    }

    private static void numbersOfHooks() {
        Due.says("HOOKS (X 0 .. 19, REACH 0 .. 5, HANDS 1 .. 9); 5 WRONG (at the INT)");
        bounds("hook a ", " 1 1;", 0, 19);
        bounds("hook a 1 ", " 1;", 0, 5);
        bounds("hook a 1 1 ", ";", 1, 9);
        SilkRise x = Due.with("hook a 0 0 1;hook b 19 5 9;");
        int[][] due = {{0, 0, 1, 0}, {19, 5, 9, 0}};
        for (int hook = 0; hook < 2; hook++) {
            for (int what = 0; what < 4; what++) {
                Due.due("hook(" + hook + ", " + what + ")", x.hook(hook, what), due[hook][what]);
            }
        }
    }

    private static void numbersOfAll() {
        Due.says("RIM 1 .. 99; 5 WRONG (at the INT)");
        bounds("rim ", ";", 1, 99);
        Due.due("RIM 1", Due.with("rim 1;").count(15), 1);
        Due.due("RIM 99", Due.with("rim 99;").count(15), 99);
        Due.says("GUSTS 0 .. 100; 5 WRONG (at the INT)");
        bounds("gusts ", ";", 0, 100);
        Due.says("SEED 0 .. 9999; 5 WRONG (at the INT)");
        bounds("seed ", ";", 0, 9999);
    }

    private static void numbersOfLaws() {
        Due.says("5 WRONG: a number not as told above; an INT of a LAW is told no bounds");
        for (String law : new String[] {"lift", "wind", "ties", "pays"}) {
            Due.fault(law + "=9999+0*9999;", 0, -1);
            Due.fault(law + "=if 9999<0 then 9999 else 0;", 0, -1);
        }
    }

    private static String many(String sort, String numbers, int n) {
        StringBuilder text = new StringBuilder();
        for (int i = 0; i < n; i++) {
            text.append(sort).append(' ').append(sort.charAt(0)).append((char) ('a' + i)).append(numbers).append("; ");
        }
        return text.toString();
    }

    private static void oneMoreOfASort() {
        Due.says("2 ROOM: one more of a sort than told (at its first TOKEN)");
        String[] sorts = {"load", "silk", "hook"};
        String[] numbers = {" 1 1 1", " 1 1", " 1 1 1"};
        int[] most = {7, 5, 5};
        for (int sort = 0; sort < 3; sort++) {
            String full = many(sorts[sort], numbers[sort], most[sort]);
            Due.fault(full, 0, -1);
            Due.fault(full + sorts[sort], 2, full.length());
            Due.fault(full + sorts[sort] + " x" + numbers[sort] + ";", 2, full.length());
            Due.fault(full + "rim 3;  " + sorts[sort] + "x", 1, full.length() + 8);
            Due.due("how many", Due.with(full).count(sort), most[sort]);
        }
        String all = many("hook", " 1 1 1", 5) + many("load", " 1 1 1", 7) + many("silk", " 1 1", 5);
        Due.fault(all, 0, -1);
        for (String sort : sorts) {
            Due.fault(all + sort + " x 1 1 1;", 2, all.length());
        }
        // A NAME told twice, a number that is wrong, count too.
        String twice = "load a 1 1 1;".repeat(7);
        Due.fault(twice, 3, 18);
        Due.fault(twice + "load", 2, twice.length());
        String wrong = "silk a 0 1;" + many("silk", " 1 1", 4);
        Due.fault(wrong, 5, 7);
        Due.fault(wrong + "silk", 2, wrong.length());
    }

    private static void aFifthIf() {
        Due.says("2 ROOM: a 5th if of a LAW (at it)");
        for (String law : new String[] {"lift", "wind", "ties", "pays"}) {
            String four = law + " = " + "if 1 < 2 then 3 else ".repeat(4);
            Due.fault(four + "5;", 0, -1);
            Due.fault(four + "if 1 < 2 then 3 else 5;", 2, four.length());
            Due.fault(four + "if", 2, four.length());
            Due.fault(four + "5;" + four + "5;", 0, -1);
            Due.fault(four + "5;" + four + "if 1", 2, 2 * four.length() + 2);
            Due.fault(four + ";", 1, four.length());
        }
        String four = "if 1<2 then 3 else ".repeat(4);
        Due.fault("lift=" + four + "1;wind=" + four + "1;ties=" + four + "1;pays=" + four + "1;", 0, -1);
    }

    private static void aSeventhWithin() {
        Due.says("2 ROOM: a 7th ( within one another (at it)");
        for (int within = 1; within <= 8; within++) {
            String open = "lift=" + "(".repeat(within);
            String text = open + "1" + ")".repeat(within) + ";";
            Due.fault(text, within > 6 ? 2 : 0, within > 6 ? 11 : -1);
            Due.fault(open, within > 6 ? 2 : 1, within > 6 ? 11 : open.length());
        }
        String six = "((((((1))))))";
        Due.fault("lift=" + six + "+" + six + "*" + six + ";wind=" + six + ";", 0, -1);
        Due.fault("lift=(((((1)+((1)))))*1);", 0, -1);
        Due.fault("lift=((((((1)+(1)))))*(1));", 0, -1);
        Due.fault("lift=((((((1)+((1))))))*(1));", 2, 15);
        Due.fault("lift=if " + six + "<" + six + " then " + six + " else " + six + ";", 0, -1);
        String[] aheads = {"lift=if ", "lift=if 1<", "lift=if 1<2 then ", "lift=if 1<2 then 3 else ", "lift=1+", "lift=1*"};
        for (String ahead : aheads) {
            Due.fault(ahead + "(((((((", 2, ahead.length() + 6);
        }
    }

    private static void the401stToken() {
        Due.says("2 ROOM: a 401st TOKEN");
        String full = "lift=1;" + "rim 5;".repeat(132);
        Due.fault(full, 0, -1);
        Due.fault(full + " \n", 0, -1);
        for (String word : "load silk hook lift wind ties pays rim gusts seed".split(" ")) {
            Due.fault(full + " " + word, 2, full.length() + 1);
        }
        // The 401st stands where each sort of TOKEN may.
        String[] starts = {"load", "load a", "load a 1", "load a 1 1", "load a 1 1 1", "silk s 1", "silk s 1 -", "lift", "lift=", "lift=if", "lift=if 1",
            "lift=if 1<", "lift=if 1<2", "lift=if 1<2 then", "lift=if 1<2 then 3", "lift=if 1<2 then 3 else", "lift=1", "lift=1+", "lift=1*", "lift=(",
            "lift=(1", "rim", "rim 1"};
        int[] tokens = {1, 2, 3, 4, 5, 3, 4, 1, 2, 3, 4, 5, 6, 7, 8, 9, 3, 4, 4, 3, 4, 1, 2};
        String[] nexts = {"a", "1", "1", "1", ";", "-", "1", "=", "1", "1", "<", "2", "then", "3", "else", "4", "/", "size", "(", "7", ")", "3", ";"};
        for (int i = 0; i < starts.length; i++) {
            int rest = 400 - tokens[i];
            int fours = rest % 3;
            String ahead = "ties=1;".repeat(fours) + "rim 5;".repeat((rest - 4 * fours) / 3);
            Due.fault(ahead + starts[i] + " " + nexts[i], 2, ahead.length() + starts[i].length() + 1);
            Due.fault(ahead + starts[i], 1, ahead.length() + starts[i].length());
            Due.fault(ahead + starts[i] + " !", 1, ahead.length() + starts[i].length() + 1);
        }
        String sum = "lift=" + "1+".repeat(198) + "1;";
        Due.fault(sum, 0, -1);
        Due.fault(sum.replace(";", "*1;"), 2, sum.length());
    }

    private static void twice() {
        Due.says("3 TWICE: a NAME told already (all together)");
        String[] tellings = {"load a 1 1 1;", "silk a 1 1;", "hook a 1 1 1;"};
        for (String one : tellings) {
            for (String other : tellings) {
                Due.fault(one + other, 3, one.length() + 5);
                Due.fault(one + "lift=1;" + other + other, 3, one.length() + 12);
                Due.fault(one + other.replace(" a ", " b "), 0, -1);
            }
        }
        String all = many("load", " 1 1 1", 7) + many("silk", " 1 1", 5) + many("hook", " 1 1 1", 4);
        for (String name : "la lb lc ld le lf lg sa sb sc sd se ha hb hc hd".split(" ")) {
            Due.fault(all + "hook " + name + " 1 1 1;", 3, all.length() + 5);
        }
        Due.fault(all + "hook he 1 1 1;", 0, -1);
        // What another text told is not told already.
        SilkRise x = Due.with("load a 1 1 1;");
        Due.due("read() again", Due.read(x, "load a 1 1 1;"), 0);
        Due.due("read() twice", Due.read(x, "load b 1 1 1;load b 1 1 1;"), 3);
        Due.due("read() again", Due.read(x, "load b 1 1 1;"), 0);
    }

    private static void theFirstByPlace() {
        Due.says("FAULTS of a text, the first by its place");
        Due.fault("! !", 1, 0);
        Due.fault("rim ! ;;", 1, 4);
        String loads = many("load", " 1 1 1", 7);
        Due.fault(loads + "! load", 1, loads.length());
        Due.fault(loads + "load !", 2, loads.length());
        Due.fault("lift=((((((( !", 2, 11);
        Due.fault("lift=(((((( !", 1, 12);
        Due.fault("lift=(((((();" + loads + "load", 1, 11);
        Due.fault(loads + "load;lift=(((((((", 2, loads.length());
        Due.says("3 TWICE, 5 WRONG, likewise: the first by its place");
        Due.fault("load a 1 0 1;load a 1 1 1;rim 0;", 5, 9);
        Due.fault("load a 1 1 1;load a 1 0 1;rim 0;", 3, 18);
        Due.fault("load a 1 1 1;rim 0;load a 1 0 1;", 5, 17);
        Due.fault("load a 20 0 100;", 5, 7);
        Due.fault("load a 2 0 100;", 5, 9);
        Due.fault("silk a 0 4;", 5, 7);
        Due.fault("silk a 1 4;silk b 0 1;", 5, 9);
        Due.fault("rim 0;rim 0;rim 5;", 5, 4);
        Due.fault("load a 1 1 1;load a 1 1 1;load a 1 1 1;", 3, 18);
    }

    private static void lateOnesOnlyWithoutOthers() {
        Due.says("If there is none, likewise: 3 TWICE .. 5 WRONG");
        String twice = "load a 1 1 1;silk a 1 1;";
        String wrong = "rim 0;";
        Due.fault(twice + "rim", 1, twice.length() + 3);
        Due.fault(wrong + "rim", 1, wrong.length() + 3);
        Due.fault(twice + wrong + "lift=(((((((", 2, twice.length() + wrong.length() + 11);
        Due.fault(wrong + "lift=" + "if 1<2 then 3 else ".repeat(4) + "if", 2, wrong.length() + 5 + 19 * 4);
        Due.fault("rim 0;".repeat(133) + "rim 0", 2, 133 * 6 + 4);
        Due.fault(twice + wrong, 3, 18);
        Due.fault(wrong + twice, 5, 4);
        Due.fault("load a 20 1 1", 1, 13);
        Due.fault("load a 20;", 1, 9);
        Due.fault("rim 0 0;", 1, 6);
    }

    private static void ofOnePlaceTheLeast() {
        Due.says("of one place the least: 1 SYNTAX ahead of 2 ROOM");
        String full = "lift=1;" + "rim 5;".repeat(132);
        for (String none : new String[] {";", "=", "1", "a", "if", "then", "size", "!", "12345", "abcdefghi", "(", ")", "\0", "\u00ff"}) {
            Due.fault(full + none, 1, full.length());
        }
        // The 401st TOKEN is one more of a sort, too: ROOM in any case.
        String loads = many("load", " 1 1 1", 7);
        String most = loads + "lift=1;" + "rim 5;".repeat(118);
        Due.fault(most, 0, -1);
        Due.fault(most + "load", 2, most.length());
        Due.fault(most + "rim", 2, most.length());
        // A ( too many is no FAULT where no ( goes on.
        Due.fault("lift=1(", 1, 6);
        Due.fault("lift=((((((1(", 1, 12);
        Due.fault("lift=" + "if 1<2 then 3 else ".repeat(4) + "5 if", 1, 5 + 19 * 4 + 2);
        Due.fault(loads + "rim load", 1, loads.length() + 4);
    }
}
