/** Each boundary of the TOKENS and of what may stand in a text. */
public final class EdgesTokensTest {
    private static final String WORDS = "load silk hook lift wind ties pays rim gusts seed if then else hour day size weight high across"
            + " price up stored";

    public static void main(String[] args) {
        eachByte();
        eachByteOfALaw();
        blanksOrNot();
        theLongestThatCanBe();
        names();
        words();
        ints();
        signs();
        eachTelling();
        eachTellingCutShort();
        laws();
        aLawOfAllTokens();
        numberedAsTheyStand();
        notTold();
        theLastOne();
        Due.end("EdgesTokensTest");
    }

    private static void eachByte() {
        Due.says("with blanks (9, 10, 13, 32) between or not: .. all else, is no TOKEN");
        for (int b = 0; b < 256; b++) {
            String text = "load x" + (char) b + "1 1 1;";
            if (b == 9 || b == 10 || b == 13 || b == 32 || b >= 'a' && b <= 'z' || b == '0' || b == '1') {
                Due.fault(text, 0, -1);
            } else if (b >= '2' && b <= '9') {
                Due.fault(text, 5, 6);
            } else {
                Due.fault(text, 1, 6);
            }
        }
    }

    private static void eachByteOfALaw() {
        Due.says("SIGNS ; = + - * / < ( )");
        for (int b = 0; b < 256; b++) {
            String text = "lift=1" + (char) b + "2;";
            boolean blank = b == 9 || b == 10 || b == 13 || b == 32;
            if (b >= '0' && b <= '9' || b == '+' || b == '-' || b == '*' || b == '/') {
                Due.fault(text, 0, -1);
            } else {
                // A blank or a ; may stand, the INT behind it may not.
                Due.fault(text, 1, blank || b == ';' ? 7 : 6);
            }
        }
    }

    private static void blanksOrNot() {
        Due.says("with blanks (9, 10, 13, 32) between or not");
        Due.fault("loadx1 1 1;", 1, 0);
        Due.fault("load x1 1 1;silk y1-1;hook z1 1 1;rim1;gusts1;seed1;lift=1+2*(size/1)-1;", 0, -1);
        Due.fault("load\t\n\r x\t\n\r 1\t1\n1\r;\t", 0, -1);
        Due.fault("  lift  =  (  1  )  ;  ", 0, -1);
        Due.fault("lift=if1<2then3else4;", 0, -1);
        Due.fault("lift=ifsize<2 then 3 else 4;", 1, 5);
        Due.fault("lift=if size<2 then size else4;", 0, -1);
        Due.fault("lift=if size<2 thensize else 4;", 1, 15);
        Due.fault("\u00ffrim 1;", 1, 0);
        Due.fault("rim 1;\u000b", 1, 6);
        Due.fault("rim 1;\u000c", 1, 6);
        Due.fault("rim 1;\u00a0", 1, 6);
        Due.fault("rim 1;\u0085", 1, 6);
    }

    private static void theLongestThatCanBe() {
        Due.says("TOKENS, the longest that can be");
        Due.fault("rimx 1;", 1, 0);
        Due.fault("rim12;", 0, -1);
        SilkRise x = Due.with("rim12;");
        Due.due("the RIM", x.count(15), 12);
        Due.fault("load if1 1 1;", 1, 5);
        Due.fault("load ifx1 1 1;", 0, -1);
        Due.fault("load x 1 11;", 1, 11);
        Due.fault("lift = hourday;", 1, 7);
        Due.fault("lift = hour day;", 1, 12);
        Due.fault("lift = 1 2;", 1, 9);
        Due.fault("lift = 12;", 0, -1);
        Due.due("12", Due.with("load a 1 1 1;silk s 1 1;ties=12;").tells(0, 0, 2), 12);
    }

    private static void names() {
        Due.says("NAMES (letters a .. z, 8 at most)");
        Due.fault("load a 1 1 1;", 0, -1);
        Due.fault("load z 1 1 1;", 0, -1);
        Due.fault("load abcdefgh 1 1 1;", 0, -1);
        Due.fault("load zzzzzzzz 1 1 1;", 0, -1);
        Due.fault("load ` 1 1 1;", 1, 5);
        Due.fault("load { 1 1 1;", 1, 5);
        Due.fault("load A 1 1 1;", 1, 5);
        Due.fault("load Z 1 1 1;", 1, 5);
        Due.fault("load abC 1 1 1;", 1, 7);
        Due.fault("load a_b 1 1 1;", 1, 6);
        Due.fault("load 1a 1 1;", 1, 5);
        Due.fault("load  1 1 1;", 1, 6);
        Due.says("A longer one .. is no TOKEN");
        Due.fault("load abcdefghi 1 1 1;", 1, 5);
        Due.fault("silk  abcdefghi 1 1;", 1, 6);
        Due.fault("hook abcdefghijklmnop 1 1 1;", 1, 5);
        Due.fault("abcdefghi", 1, 0);
        Due.fault("lift=abcdefghi;", 1, 5);
        Due.says("NAMES are other ones by each letter of theirs");
        Due.fault("load abcdefgh 1 1 1;load abcdefgi 1 1 1;load bbcdefgh 1 1 1;load abcdefg 1 1 1;load a 1 1 1;load aa 1 1 1;", 0, -1);
        Due.fault("load abcdefgh 1 1 1;silk abcdefgh 1 1;", 3, 25);
        Due.fault("load b 1 1 1;load bb 1 1 1;load bbb 1 1 1;load bbbbbbbb 1 1 1;load c 1 1 1;load ac 1 1 1;load ca 1 1 1;", 0, -1);
        Due.fault("load z 1 1 1;load zz 1 1 1;load zzzzzzzz 1 1 1;load y 1 1 1;load az 1 1 1;load ba 1 1 1;load ay 1 1 1;", 0, -1);
    }

    private static void words() {
        Due.says("NAMES .. none of the words in quotes");
        for (String word : WORDS.split(" ")) {
            Due.fault("load " + word + " 1 1 1;", 1, 5);
            Due.fault("silk " + word + " 1 1;", 1, 5);
            Due.fault("hook " + word + " 1 1 1;", 1, 5);
            Due.fault("hook x" + word + " 1 1 1;", 0, -1);
            Due.fault("hook " + word.substring(1) + " 1 1 1;", 0, -1);
        }
        Due.fault("load text 1 1 1;load tell 1 1 1;load law 1 1 1;load e 1 1 1;load part 1 1 1;load unit 1 1 1;load int 1 1 1;", 0, -1);
        Due.fault("load name 1 1 1;load var 1 1 1;load none 1 1 1;load loads 1 1 1;load iff 1 1 1;load ups 1 1 1;load lifts 1 1 1;", 0, -1);
    }

    private static void ints() {
        Due.says("INTS (1 to 4 digits)");
        String[] sevens = {"7", "07", "007", "0007"};
        for (String seven : sevens) {
            SilkRise x = Due.with("load a " + seven + " " + seven + " " + seven + ";silk s " + seven + " -0003;rim " + seven + ";");
            Due.due("X", x.load(0, 0), 7);
            Due.due("WEIGHT", x.load(0, 1), 7);
            Due.due("PRICE", x.load(0, 2), 7);
            Due.due("SIZE", x.silk(0, 0), 7);
            Due.due("PULL", x.pull(0), -3);
            Due.due("the RIM", x.count(15), 7);
        }
        Due.due("9999", Due.with("load a 1 1 1;silk s 1 1;ties=9999-9901;").tells(0, 0, 2), 98);
        Due.due("0000", Due.with("load a 1 1 1;silk s 1 1;ties=0000;").tells(0, 0, 2), 0);
        Due.says("A longer one .. is no TOKEN");
        Due.fault("load a 00007 7 7;", 1, 7);
        Due.fault("load a 7 7 10000;", 1, 11);
        Due.fault("load a 7 7 99999999999999999999;", 1, 11);
        Due.fault("rim 00010;", 1, 4);
        Due.fault("lift=10000;", 1, 5);
        Due.fault("lift=1+00001;", 1, 7);
        Due.fault("12345", 1, 0);
    }

    private static void signs() {
        Due.says("SIGNS ; = + - * / < ( ): another one is no TOKEN");
        for (char c : "!\"#$%&',.:>?@[\\]^_`{|}~".toCharArray()) {
            Due.fault("lift = 1 " + c + " 2;", 1, 9);
            Due.fault(c + "lift = 1;", 1, 0);
            Due.fault("lift = 1;" + c, 1, 9);
        }
        Due.fault("lift = 1 <= 2;", 1, 9);
        Due.fault("lift = if 1 <= 2 then 1 else 2;", 1, 13);
        Due.fault("lift == 1;", 1, 6);
        Due.fault("lift = 1 // 2;", 1, 10);
        Due.fault("lift = 1 - - 2;", 1, 11);
    }

    private static void eachTelling() {
        Due.says("text: {TELL}");
        Due.fault("", 0, -1);
        Due.fault(" ", 0, -1);
        for (String one : new String[] {"load a 1 2 3;", "silk a 1 2;", "silk a 1 -2;", "hook a 1 2 3;", "lift=1;", "wind=1;", "ties=1;", "pays=1;",
            "rim 1;", "gusts 1;", "seed 1;"}) {
            Due.fault(one, 0, -1);
            Due.fault("rim 3;" + one + "rim 4;", 0, -1);
        }
        Due.fault("load a 1 2;", 1, 10);
        Due.fault("load a 1 2 3 4;", 1, 13);
        Due.fault("load a 1 2 -3;", 1, 11);
        Due.fault("load a -1 2 3;", 1, 7);
        Due.fault("silk a 1;", 1, 8);
        Due.fault("silk a 1 2 3;", 1, 11);
        Due.fault("silk a -1 2;", 1, 7);
        Due.fault("silk a 1 +2;", 1, 9);
        Due.fault("silk a 1 --2;", 1, 10);
        Due.fault("silk a 1 -;", 1, 10);
        Due.fault("hook a 1 2;", 1, 10);
        Due.fault("hook a 1 2 3 4;", 1, 13);
        Due.fault("hook a 1 2 -3;", 1, 11);
        for (String word : new String[] {"rim", "gusts", "seed"}) {
            Due.fault(word + ";", 1, word.length());
            Due.fault(word + " -1;", 1, word.length() + 1);
            Due.fault(word + "=1;", 1, word.length());
            Due.fault(word + " 1 1;", 1, word.length() + 3);
            Due.fault(word + " a;", 1, word.length() + 1);
        }
        for (String word : "if then else hour day size weight high across price up stored abc 12 = + - * / < ( ) ;".split(" ")) {
            Due.fault(word, 1, 0);
            Due.fault("rim 1;" + word, 1, 6);
        }
    }

    private static void eachTellingCutShort() {
        Due.says("the text's end: its length");
        String[] parts = {"load", " a", " 1", " 2", " 3", ";", "silk", " s", " 1", " -", " 2", ";", "hook", " h", " 1", " 2", " 3", ";", "lift", " =",
            " if", " 1", " <", " (", " 2", " )", " then", " 3", " +", " 4", " else", " 5", " *", " size", ";", "rim", " 1", ";"};
        StringBuilder text = new StringBuilder();
        for (String part : parts) {
            text.append(part);
            boolean whole = part.equals(";");
            Due.fault(text.toString(), whole ? 0 : 1, whole ? -1 : text.length());
            Due.fault(text + "  ", whole ? 0 : 1, whole ? -1 : text.length() + 2);
        }
    }

    private static void laws() {
        Due.says("LAW: '=' {'if' E '<' E 'then' E 'else'} E");
        String[] vars = "hour day size weight high across price up stored".split(" ");
        for (String law : new String[] {"lift", "wind", "ties", "pays"}) {
            for (String var : vars) {
                Due.fault(law + "=" + var + ";", 0, -1);
            }
            Due.fault(law + "=rim;", 1, 5);
            Due.fault(law + "=gusts;", 1, 5);
            Due.fault(law + "=" + law + ";", 1, 5);
            Due.fault(law + "=;", 1, 5);
            Due.fault(law + ";", 1, 4);
            Due.fault(law + " 1;", 1, 5);
        }
        Due.fault("lift=-1;", 1, 5);
        Due.fault("lift=+1;", 1, 5);
        Due.fault("lift=();", 1, 6);
        Due.fault("lift=(1;", 1, 7);
        Due.fault("lift=1);", 1, 6);
        Due.fault("lift=1<2;", 1, 6);
        Due.fault("lift=then 1;", 1, 5);
        Due.fault("lift=else 1;", 1, 5);
        Due.fault("lift=if then 1 else 2;", 1, 8);
        Due.fault("lift=if 1<2 else 2;", 1, 12);
        Due.fault("lift=if 1<2 then else 2;", 1, 17);
        Due.fault("lift=if 1<2 then 1;", 1, 18);
        Due.fault("lift=if 1<2 then 1 else;", 1, 23);
        Due.fault("lift=if 1<2 then 1 then 2;", 1, 19);
        Due.fault("lift=if 1<2<3 then 1 else 2;", 1, 11);
        Due.fault("lift=(if 1<2 then 1 else 2);", 1, 6);
        Due.fault("lift=if 1<2 then if 1<2 then 1 else 2 else 3;", 1, 17);
        Due.fault("lift=1+if 1<2 then 1 else 2;", 1, 7);
        Due.fault("lift=2(3);", 1, 6);
        Due.fault("lift=(2)3;", 1, 8);
        Due.fault("lift=size high;", 1, 10);
        Due.fault("lift=a;", 1, 5);
        Due.fault("lift=1*;", 1, 7);
        Due.fault("lift=1/;", 1, 7);
    }

    private static void aLawOfAllTokens() {
        Due.says("a 401st TOKEN: with 400 a LAW is told as any other one");
        for (String law : new String[] {"lift", "wind", "ties", "pays"}) {
            int which = law.equals("lift") ? 0 : law.equals("wind") ? 1 : law.equals("ties") ? 2 : 3;
            // 12 TOKENS for the two ahead, 2 and 1 about the LAW: it has 385 of 400.
            SilkRise x = Due.with("load a 1 1 1;silk s 1 -1;" + law + "=" + "0+".repeat(192) + "2;");
            Due.due(law + " of a long LAW", x.tells(0, 0, which), 2);
            x = Due.with("load a 1 1 1;silk s 1 1;" + law + "=if 0<" + "0*".repeat(188) + "1 then 1 else 3;");
            Due.due(law + " of a long if", x.tells(0, 0, which), 3);
        }
        SilkRise x = Due.with("load a 1 1 1;silk s 1 1;" + "ties=1;".repeat(88) + "lift=1+1;wind=1+1+1;pays=1+1+1+1;ties=5;");
        int[] due = {2, 3, 5, 4};
        for (int law = 0; law < 4; law++) {
            Due.due("behind many, tells(0, 0, " + law + ")", x.tells(0, 0, law), due[law]);
        }
    }

    private static void numberedAsTheyStand() {
        Due.says("numbered each from 0 on as they stand");
        SilkRise x = Due.with("hook ha 1 0 1; load la 2 1 1; silk sa 3 0; load lb 4 1 1; hook hb 5 0 1; silk sb 6 0; load lc 7 1 1; load ld 8 1 1;"
                + "hook hc 9 0 1; load le 10 1 1; silk sc 9 1; load lf 12 1 1; load lg 13 1 1; silk sd 8 1; silk se 7 1; hook hd 14 0 1; hook he 15 0 1;");
        int[] loads = {2, 4, 7, 8, 10, 12, 13};
        int[] silks = {3, 6, 9, 8, 7};
        int[] hooks = {1, 5, 9, 14, 15};
        for (int i = 0; i < 7; i++) {
            Due.due("load(" + i + ", 0)", x.load(i, 0), loads[i]);
        }
        for (int i = 0; i < 5; i++) {
            Due.due("silk(" + i + ", 0)", x.silk(i, 0), silks[i]);
            Due.due("hook(" + i + ", 0)", x.hook(i, 0), hooks[i]);
        }
        Due.due("load(7, 0)", x.load(7, 0), -1);
        Due.due("silk(5, 0)", x.silk(5, 0), -1);
        Due.due("pull(5)", x.pull(5), -100);
        Due.due("hook(5, 0)", x.hook(5, 0), -1);
        Due.due("count(4)", x.count(4), 127);
    }

    private static void notTold() {
        Due.says("LIFT (size - weight), WIND (0), TIES (weight), PAYS (price), if not told; RIM (10), GUSTS (0), SEED (0)");
        SilkRise x = Due.with("load a 3 4 77; silk s 9 2; hook h 7 0 1;");
        Due.due("LIFT", x.tells(0, 0, 0), 5);
        Due.due("WIND", x.tells(0, 0, 1), 0);
        Due.due("TIES", x.tells(0, 0, 2), 4);
        Due.due("PAYS", x.tells(0, 0, 3), 77);
        Due.due("RIM", x.count(15), 10);
        Due.due("by 5 to 10 high, 2 aside", x.flight(0, 0, 0, 2), 0);
        for (int hour = 0; hour < 100; hour++) {
            Due.due("no GUST", x.count(14), 0);
            x.hours(1);
        }
        // What the text ahead told is not told.
        x = Due.with("load b 1 1 1; lift=1; wind=1; ties=1; pays=1; rim 77; gusts 100; seed 9999;");
        Due.due("read()", Due.read(x, "load a 3 4 77; silk s 9 2;"), 0);
        int[] now = {5, 0, 4, 77};
        for (int law = 0; law < 4; law++) {
            Due.due("behind another text tells(0, 0, " + law + ")", x.tells(0, 0, law), now[law]);
        }
        Due.due("RIM", x.count(15), 10);
        for (int hour = 0; hour < 20; hour++) {
            Due.due("no GUST behind another text", x.count(14), 0);
            x.hours(1);
        }
        x = Due.with("gusts 100; seed 9999;");
        Due.due("read()", Due.read(x, "gusts 50;"), 0);
        SilkRise none = Due.with("gusts 100; seed 38;");
        Due.due("read()", Due.read(none, "seed 38;"), 0);
        Due.due("GUSTS 0, LOT 0", none.count(14), 0);
        for (int hour = 0; hour < 60; hour++) {
            Due.due("SEED 0 behind another text, GUST in " + hour, x.count(14), ThingsTest.lot(0, 4 * hour) < 50 ? 1 : 0);
            x.hours(1);
        }
        // One that is told is so, the others are not.
        String[] laws = {"lift=1;", "wind=1;", "ties=1;", "pays=1;"};
        int[] due = {5, 0, 4, 77};
        for (int told = 0; told < 4; told++) {
            x = Due.with("load a 3 4 77; silk s 9 2;" + laws[told]);
            for (int law = 0; law < 4; law++) {
                Due.due("tells(0, 0, " + law + ") with " + laws[told], x.tells(0, 0, law), law == told ? 1 : due[law]);
            }
        }
    }

    private static void theLastOne() {
        Due.says("LAWS .. the last one; RIM, GUSTS, SEED: the last one");
        SilkRise x = Due.with("lift=1;wind=1;ties=1;pays=1;rim 1;gusts 1;seed 1;load a 3 4 77; silk s 9 2;"
                + "lift=2;wind=2;ties=2;pays=2;rim 2;gusts 99;seed 2;lift=if 1<2 then 7 else 8;wind=3;ties=8;pays=9;rim 99;gusts 50;seed 77;");
        int[] due = {7, 3, 8, 9};
        for (int law = 0; law < 4; law++) {
            Due.due("tells(0, 0, " + law + ")", x.tells(0, 0, law), due[law]);
        }
        Due.due("the RIM", x.count(15), 99);
        for (int hour = 0; hour < 60; hour++) {
            Due.due("GUST in " + hour, x.count(14), ThingsTest.lot(77, 4 * hour) < 50 ? 1 : 0);
            x.hours(1);
        }
    }
}
