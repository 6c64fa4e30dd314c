/** Section 1 of the document, sentence by sentence: the last that each takes and the first that it refuses. */
public final class LanguageEdges extends Asking {
    private static final String[] WHATS = {"treadle", "fingers", "reach", "soon", "dry", "dip", "warm", "cool", "crack", "along", "grind"};
    private static final int[] LEAST = {1, 1, 1, 0, 1, 1, 0, 0, 1, 0, 1};
    private static final int[] MOST = {99, 3, 12, 9, 99, 20, 99, 99, 999, 999, 99};
    private static final int[] UNTOLD = {10, 2, 4, 1, 12, 2, 3, 1, 5, 0, 1};
    private static final String[] FACTS = {"speed", "press", "heat", "touch", "wall"};
    private static final String TWO = "bowl a tone 1 size 1 wall 1;bowl b tone 1 size 1 wall 1;";

    private LanguageEdges() { }

    public static void main(String[] args) {
        calls();
        tapeLength();
        tapeSigns();
        tapeOrder();
        tapeIsTaken();
        words();
        numbers();
        signs();
        blanks();
        longestTokens();
        bowlNumbers();
        bowlKinds();
        bowlsAtMost();
        pairNumbers();
        pairBowls();
        pairsAtMost();
        speaksAtMost();
        setNumbers();
        setOnce();
        untold();
        names();
        namesAlike();
        tests();
        sums();
        parts();
        depth();
        depthIsLeft();
        firstFault();
        leastFault();
        theEnd();
        lines();
        withoutAFault();
        lawsOfOldTexts();
        places();
        end("edges of the language");
    }

    private static void calls() {
        sentence("An object is used for at most 512 calls after it has been made");
        GlassSpindle x = new GlassSpindle();
        feed(x, BOWL);
        x.spindle();
        // Up to here count(16), two feeds of 24 signs and spindle: 4 calls.
        for (int call = 5; call <= 512; call += 2) {
            due("call " + call, x.note(0, 0, 1, 1, NONE), 0);
            due("call " + (call + 1), x.drop(), true);
        }
    }

    private static void tapeLength() {
        sentence("The TAPE has at most 1,000 signs");
        String blank = " ".repeat(990);
        GlassSpindle x = new GlassSpindle();
        due("999 signs", feed(x, "set dry 7" + blank), 999);
        due("the 1,000th", x.feed(';', 0, 0), 1000);
        due("the 1,001st", x.feed(';', 0, 0), 1000);
        due("24 more", x.feed(0x3b3b3b3b3b3b3b3bL, 0x3b3b3b3b3b3b3b3bL, 0x3b3b3b3b3b3b3b3bL), 1000);
        due("the last sign counts, those beyond are left out", x.spindle(), 0);
        due("dry", x.count(9), 7);
        due("one more blank", feed(x, "set dry 8 " + blank + ";"), 1000);
        due("the end is at 1,000", x.spindle(), 1 + 16 * 1000);
        due("dry", x.count(9), 7);
        due("a feed across the brim", feed(x, blank + "set dry 9;set dry 9;"), 1000);
        due("what is within counts", x.spindle(), 0);
        due("dry", x.count(9), 9);
        faultAt(1, 999, " ".repeat(999) + "?");
        due("a fault beyond", of(" ".repeat(1000) + "?").count(0), 0);
    }

    private static void tapeSigns() {
        sentence("signs, 10 and 32 .. 126; others are left out");
        for (int value = 0; value < 256; value++) {
            GlassSpindle x = new GlassSpindle();
            boolean taken = value == 10 || value >= 32 && value <= 126;
            for (int i = 0; i < 24; i++) {
                long bytes = (long) value << 8 * (7 - i % 8);
                due("byte " + value + " at " + i, x.feed(i < 8 ? bytes : 0, i >= 8 && i < 16 ? bytes : 0, i >= 16 ? bytes : 0), taken ? i + 1 : 0);
            }
        }
    }

    private static void tapeOrder() {
        sentence("the bytes of a, b, c, of each the highest first");
        for (int i = 0; i < 24; i++) {
            StringBuilder s = new StringBuilder(" ".repeat(24));
            s.setCharAt(i, '~');
            faultAt(1, i, s.toString());
        }
        GlassSpindle x = new GlassSpindle();
        due("signs and others between them", x.feed(0x7300650074002000L, 0x6400720079ff20ffL, 0x008037ff1f3b7f00L), 10);
        due("are one text", x.spindle(), 0);
        due("dry", x.count(9), 7);
    }

    private static void tapeIsTaken() {
        sentence("what reads it takes it: it is empty then");
        GlassSpindle x = new GlassSpindle();
        due("spindle of an empty tape", x.spindle(), 0);
        feed(x, "set dry 7;");
        due("signs", x.count(16), 10);
        due("spindle", x.spindle(), 0);
        due("signs", x.count(16), 0);
        due("spindle again, of nothing", x.spindle(), 0);
        due("dry is as without a line", x.count(9), 12);
        feed(x, "set dry 0;");
        due("a fault", x.spindle(), 4 + 16 * 8);
        due("signs", x.count(16), 0);
        due("places from 0 again", read(x, "?"), 1);
    }

    private static void words() {
        sentence("WORDS (letters a .. z, 8 at most)");
        due("8 letters", of("bowl abcdefgh tone 1 size 1 wall 1;bowl z tone 1 size 1 wall 1;pair abcdefgh 1 z 1 within 0;").count(2), 1);
        fault(1, "bowl ^abcdefghi tone 1 size 1 wall 1;");
        fault(1, TWO + "pair ^abcdefghi 1 b 1 within 0;");
        fault(1, "^abcdefghi");
        due("from a", of("bowl aaaaaaaa tone 1 size 1 wall 1;").count(0), 1);
        due("to z", of("bowl zzzzzzzz tone 1 size 1 wall 1;").count(0), 1);
        fault(1, "bowl ^` tone 1 size 1 wall 1;");
        fault(1, "bowl ^{ tone 1 size 1 wall 1;");
        fault(1, "bowl ^A tone 1 size 1 wall 1;");
        fault(1, "bowl a^Z tone 1 size 1 wall 1;");
        fault(1, "bowl ^_ tone 1 size 1 wall 1;");
        fault(1, "^Bowl a tone 1 size 1 wall 1;");
        fault(1, "^bOWL a tone 1 size 1 wall 1;");
    }

    private static void numbers() {
        sentence("NUMBERS (1 to 4 digits; a letter may stand right behind)");
        due("1 digit", of("set crack 9;").count(13), 9);
        due("4 digits", of("bowl a tone 9999 size 1 wall 1;").bowl(0, 0), 9999);
        due("4 digits, noughts first", of("set crack 0009;").count(13), 9);
        fault(1, "set crack ^00009;");
        fault(1, "bowl a tone ^10000 size 1 wall 1;");
        fault(1, "speak ^12345;");
        due("in a law", of("speak 9999;").count(3), 1);
        due("noughts", of("speak 0000;").count(3), 1);
        due("0 to 9", of("bowl a tone 1234 size 56 wall 07;bowl b tone 8901 size 1 wall 1;").bowl(1, 0), 8901);
        due("a letter right behind", of("bowl a tone 1size 2wall 3gilt;").bowl(0, 3), 2);
        due("a number right behind letters", of("bowl a tone1size2wall3;set dry5;").bowl(0, 2), 3);
        fault(1, "set dry 5^x;");
        fault(1, "set dry ^/;");
        fault(1, "set dry ^:;");
        fault(1, "set dry 1^.5;");
    }

    private static void signs() {
        sentence("the signs ( ) < = + - * ; All else is none");
        due("each of them", of("speak (1)<2;speak 1=1;speak 1+1-1*1;").count(3), 3);
        for (char c = 33; c <= 126; c++) {
            boolean letter = c >= 'a' && c <= 'z';
            boolean digit = c >= '0' && c <= '9';
            boolean sign = "()<=+-*;".indexOf(c) >= 0;
            if (!letter && !digit && !sign) {
                faultAt(1, 7, "speak 1" + c + "1;");
                faultAt(1, 6, "speak " + c + "1;");
                faultAt(1, 8, "speak 1;" + c);
                faultAt(1, 0, "" + c);
            }
        }
    }

    private static void blanks() {
        sentence("blanks (10, 32) between where one likes");
        due("none at all", of("speak(1+2)*3<4;set dry5;").count(9), 5);
        due("many", of(" \n set \n\n dry   5 \n ; \n ").count(9), 5);
        due("one each", of("speak ( 1 + 2 ) * 3 - 4 < 5 and 6 = 7 ;").count(3), 1);
        fault(1, "set ^d ry 5;");
        fault(1, "set crack 1 ^2;");
    }

    private static void longestTokens() {
        sentence("each as long as can be");
        fault(1, "^bowla tone 1 size 1 wall 1;");
        fault(1, "bowl atone ^1 size 1 wall 1;");
        fault(1, "bowl a tone 1 size 1 wall 1 ^giltgilt;");
        fault(1, "speak ^notnot 1;");
        fault(1, "^setdry 1;");
        fault(1, "speak 1 ^andand 1;");
        due("12 is no 1 and 2", of("set dry 12;").count(9), 12);
    }

    /** A number from least to most between two texts; behind most comes fault 4, or 1 if it has five digits. */
    private static void bounds(String ahead, int least, int most, String behind) {
        due(ahead + least, of(ahead + least + behind).count(17), NONE);
        due(ahead + most, of(ahead + most + behind).count(17), NONE);
        if (least > 0) {
            fault(4, ahead + "^" + (least - 1) + behind);
            fault(4, ahead + "^0000" + behind);
        }
        fault(most == 9999 ? 1 : 4, ahead + "^" + (most + 1) + behind);
        if (most < 9999) {
            fault(4, ahead + "^9999" + behind);
        }
        fault(1, ahead + "^-" + most + behind);
        fault(1, ahead + "^x" + behind);
        fault(1, ahead + "^" + behind.strip());
    }

    private static void bowlNumbers() {
        sentence("BOWLS: tone 1 to 9999, size 1 to 99, wall 1 to 20");
        bounds("bowl a tone ", 1, 9999, " size 1 wall 1;");
        bounds("bowl a tone 1 size ", 1, 99, " wall 1;");
        bounds("bowl a tone 1 size 1 wall ", 1, 20, ";");
        GlassSpindle x = of("bowl a tone 1 size 1 wall 1;bowl b tone 9999 size 99 wall 20;");
        due("the least", "" + x.bowl(0, 0) + x.bowl(0, 1) + x.bowl(0, 2), "111");
        due("the most", "" + x.bowl(1, 0) + " " + x.bowl(1, 1) + " " + x.bowl(1, 2), "9999 99 20");
    }

    private static void bowlKinds() {
        sentence("KIND nothing (plain), rimmed, gilt or spare");
        String[] kinds = {"", "rimmed", "gilt", "spare"};
        for (int i = 0; i < kinds.length; i++) {
            due(kinds[i], of("bowl a tone 1 size 1 wall 1 " + kinds[i] + ";").bowl(0, 3), i);
        }
        for (String word : "bowl tone size wall pair within speak set not and or plain dry speed x".split(" ")) {
            fault(1, "bowl a tone 1 size 1 wall 1 ^" + word + ";");
            fault(1, "bowl a tone 1 size 1 wall 1 gilt ^" + word + ";");
        }
        fault(1, "bowl a tone 1 size 1 wall 1 rimmed ^gilt;");
        fault(1, "bowl a ^gilt tone 1 size 1 wall 1;");
        fault(1, "bowl a tone 1 size 1 wall 1^,;");
    }

    private static void bowlsAtMost() {
        sentence("BOWLS, 12 at most, numbered as told; 5: the word bowl of a 13th");
        GlassSpindle x = of(bowls(12, ""));
        due("12", x.count(0), 12);
        due("the last one", x.bowl(11, 0), 111);
        due("none behind it", x.bowl(12, 0), NONE);
        due("12 spares", of(bowls(12, " spare")).count(0), 12);
        fault(5, bowls(12, "") + "^bowl m tone 1 size 1 wall 1;");
        fault(5, bowls(12, " spare") + "^bowl m tone 1 size 1 wall 1;");
        fault(5, bowls(12, "") + "speak 1; ^bowl");
        fault(5, bowls(12, "") + "^bowl a ?");
        due("other lines behind 12", of(bowls(12, "") + "speak 1;set dry 1;pair a 1 l 1 within 0;").count(2), 1);
    }

    private static void pairNumbers() {
        sentence("pair: each with a number of 1 to 20; within 0 to 9999");
        bounds(TWO + "pair a ", 1, 20, " b 1 within 0;");
        bounds(TWO + "pair a 1 b ", 1, 20, " within 0;");
        bounds(TWO + "pair a 1 b 1 within ", 0, 9999, ";");
        String two = "bowl a tone 9999 size 1 wall 1;bowl b tone 500 size 1 wall 1;";
        GlassSpindle x = of(two + "pair a 20 b 1 within 0;pair b 1 a 20 within 9999;");
        due("20 and 1", x.beating(0), 20 * 500 - 9999);
        due("1 and 20", x.beating(1), 20 * 500 - 9999);
        due("within 0 and 9999", x.within(), 2);
    }

    private static void pairBowls() {
        sentence("pair: two BOWLS told, not the same; FAULTS 2 and 3");
        fault(2, "pair ^a 1 b 1 within 0;" + TWO);
        fault(2, BOWL + "pair a 1 ^b 1 within 0;bowl b tone 1 size 1 wall 1;");
        fault(2, TWO + "pair ^c 1 b 1 within 0;");
        fault(2, TWO + "pair a 1 ^c 1 within 0;");
        fault(2, TWO + "pair ^c 1 c 1 within 0;");
        fault(2, TWO + "pair ^speed 1 b 1 within 0;");
        fault(3, TWO + "pair a 1 ^a 1 within 0;");
        fault(3, TWO + "pair b 2 ^b 1 within 0;");
        fault(1, TWO + "pair a ^b 1 within 0;");
        fault(1, TWO + "pair ^1 b 1 within 0;");
        due("either way round, and twice", of(TWO + "pair a 1 b 1 within 0;pair b 1 a 1 within 0;pair a 1 b 1 within 0;").count(2), 3);
        due("the first and the last one", of(bowls(12, "") + "pair l 1 a 1 within 0;").beating(0), 11);
        due("spares, too", of(bowls(2, " spare") + "pair a 1 b 1 within 0;").count(2), 1);
    }

    private static void pairsAtMost() {
        sentence("pair, 8 at most; 5: the word pair of a ninth");
        String eight = TWO + "pair a 1 b 1 within 0;".repeat(8);
        GlassSpindle x = of(eight);
        due("8", x.count(2), 8);
        due("the last one", x.beating(7), 0);
        due("none behind it", x.beating(8), NONE);
        fault(5, eight + "^pair a 1 b 1 within 0;");
        fault(5, eight + "^pair");
        due("other lines behind 8", of(eight + "speak 1;set dry 1;bowl c tone 1 size 1 wall 1;").count(0), 3);
    }

    private static void speaksAtMost() {
        sentence("speak: 4 at most; 5: speak of a fifth");
        String four = "speak 1;".repeat(4);
        due("4", of(four).count(3), 4);
        fault(5, four + "^speak 1;");
        fault(5, four + "^speak");
        due("other lines behind 4", of(four + TWO + "pair a 1 b 1 within 0;set dry 1;").count(2), 1);
        for (int i = 0; i < 4; i++) {
            GlassSpindle x = of(BOWL + "set soon 0;" + "speak 1;".repeat(i) + "speak 0;" + "speak 1;".repeat(3 - i));
            x.note(0, 0, 1, 1, NONE);
            due("law " + i + " counts", x.why(0, 0), 4);
        }
    }

    private static void setNumbers() {
        sentence("set: treadle (1 to 99; 10), fingers (1 to 3; 2), .. grind (1 to 99; 1)");
        for (int i = 0; i < WHATS.length; i++) {
            String set = "set " + WHATS[i] + " ";
            bounds(set, LEAST[i], MOST[i], ";");
            due(set + "least", of(set + LEAST[i] + ";").count(5 + i), LEAST[i]);
            due(set + "most", of(set + MOST[i] + ";").count(5 + i), MOST[i]);
        }
        for (String word : "bowl tone size wall rimmed gilt spare pair within speak set not and or speed press heat touch x".split(" ")) {
            fault(1, "set ^" + word + " 1;");
        }
        fault(1, "set ^1;");
        fault(1, "set ^;");
        fault(1, "set dry ^;");
    }

    private static void setOnce() {
        sentence("set, each WHAT once; 3: a WHAT told");
        StringBuilder all = new StringBuilder();
        for (int i = 0; i < WHATS.length; i++) {
            fault(3, "set " + WHATS[i] + " " + LEAST[i] + ";set ^" + WHATS[i] + " " + LEAST[i] + ";");
            fault(3, "set " + WHATS[i] + " " + LEAST[i] + ";speak 1;set ^" + WHATS[i]);
            all.append("set ").append(WHATS[WHATS.length - 1 - i]).append(" ").append(MOST[WHATS.length - 1 - i]).append(";");
        }
        GlassSpindle x = of(all.toString());
        for (int i = 0; i < WHATS.length; i++) {
            due("all of them: " + WHATS[i], x.count(5 + i), MOST[i]);
            fault(3, all + "set ^" + WHATS[i] + " 1;");
        }
        due("once in each text", read(x, "set dry 3;") + read(x, "set dry 4;"), 0);
        due("dry", x.count(9), 4);
    }

    private static void untold() {
        sentence("without a line the last number in ( )");
        GlassSpindle x = of("");
        for (int i = 0; i < WHATS.length; i++) {
            due(WHATS[i], x.count(5 + i), UNTOLD[i]);
        }
        for (int told = 0; told < WHATS.length; told++) {
            read(x, "set " + WHATS[told] + " " + MOST[told] + ";");
            for (int i = 0; i < WHATS.length; i++) {
                due(WHATS[i] + " where " + WHATS[told] + " is told", x.count(5 + i), i == told ? MOST[i] : UNTOLD[i]);
            }
        }
    }

    private static void names() {
        sentence("A NAME is another WORD than bowl, tone, size, .., the WHATS, not, and, or");
        String reserved = "bowl tone size wall rimmed gilt spare pair within speak set treadle fingers reach soon dry dip warm cool crack along grind not and or";
        for (String word : reserved.split(" ")) {
            fault(1, "bowl ^" + word + " tone 1 size 1 wall 1;");
            fault(1, TWO + "pair ^" + word + " 1 b 1 within 0;");
            fault(1, TWO + "pair a 1 ^" + word + " 1 within 0;");
            String longer = word.length() < 8 ? word + "s" : "x";
            String shorter = word.substring(0, word.length() - 1);
            due(longer, of("bowl " + longer + " tone 1 size 1 wall 1;").count(0), 1);
            due(shorter, of("bowl " + shorter + " tone 1 size 1 wall 1;").count(0), 1);
        }
        for (String word : "speed press heat touch plain n what name".split(" ")) {
            due(word, of("bowl " + word + " tone 1 size 1 wall 1;" + TWO + "pair " + word + " 1 a 1 within 0;pair b 1 " + word + " 1 within 0;").count(2), 2);
        }
        fault(1, "bowl ^; tone 1 size 1 wall 1;");
        fault(1, "bowl ^7 tone 1 size 1 wall 1;");
    }

    private static void namesAlike() {
        sentence("no two are alike; 3 a BOWL's NAME that is told");
        fault(3, BOWL + "bowl ^a tone 1 size 1 wall 1;");
        fault(3, bowls(11, "") + "bowl ^a tone 1 size 1 wall 1;");
        fault(3, bowls(11, "") + "bowl ^k tone 1 size 1 wall 1;");
        fault(3, "bowl a tone 1 size 1 wall 1 spare;bowl ^a tone 1 size 1 wall 1;");
        fault(3, "bowl abcdefgh tone 1 size 1 wall 1;bowl ^abcdefgh tone 1 size 1 wall 1;");
        fault(3, "bowl speed tone 1 size 1 wall 1;bowl ^speed tone 1 size 1 wall 1;");
        fault(3, "bowl z tone 1 size 1 wall 1;bowl ^z\ntone 1 size 1 wall 1;");
        fault(3, "bowl ab tone 1 size 1 wall 1;bowl ^ab;");
        String near = "bowl abcdefgh tone 1 size 1 wall 1;bowl abcdefgz tone 1 size 1 wall 1;bowl zbcdefgh tone 1 size 1 wall 1;bowl abcdefg tone 1 size 1 wall 1;bowl a tone 1 size 1 wall 1;bowl az tone 1 size 1 wall 1;bowl z tone 1 size 1 wall 1;";
        due("nearly alike", of(near).count(0), 7);
        GlassSpindle x = of(near.replace("abcdefgz tone 1", "abcdefgz tone 5").replace("bowl az tone 1", "bowl az tone 9") + "pair abcdefgz 1 az 1 within 0;pair a 1 az 1 within 0;");
        due("each its own", "" + x.beating(0) + x.beating(1), "48");
        due("an old text's names are free", read(x, TWO), 0);
        due("and a fault's, too", read(x, BOWL + "?") + read(x, BOWL), 1 + 16 * 28);
    }

    private static void tests() {
        sentence("E: TEST { and TEST or or TEST }; TEST: SUM, or SUM < SUM, or SUM = SUM");
        due("one comparison each", of("speak 1<2 and 2=3 or 4<5;").count(3), 1);
        fault(1, "speak 1<2 ^<3;");
        fault(1, "speak 1=2^=3;");
        fault(1, "speak 1<2^=3;");
        fault(1, "speak 1=2 and 1<2^<3;");
        due("in ( ) again", of("speak (1<2)<3;speak 1=(2=3);").count(3), 2);
        fault(1, "speak 1<^;");
        fault(1, "speak 1=^and 1;");
        fault(1, "speak ^<1;");
        fault(1, "speak 1 and ^and 1;");
        fault(1, "speak 1 or^;");
        fault(1, "speak ^or 1;");
        fault(1, "speak 1<^=2;");
        fault(1, "speak 1 ^1;");
        fault(1, "speak 1 ^speed;");
    }

    private static void sums() {
        sentence("SUM: PRODUCT { + or - PRODUCT }; PRODUCT: PART { * PART }");
        due("chains", of("speak 1+2-3+4*5*6-7;").count(3), 1);
        fault(1, "speak 1+^+1;");
        fault(1, "speak 1+^-1;");
        fault(1, "speak ^-1;");
        fault(1, "speak ^*1;");
        fault(1, "speak 1*^*1;");
        fault(1, "speak 1*^;");
        fault(1, "speak 1-^;");
        String longest = "speak 1" + "*1".repeat(496) + ";";
        due("the longest has 1,000 signs", longest.length(), 1000);
        due("the longest", of(longest).count(3), 1);
        faultAt(1, 1000, longest.replace(";", "*"));
        GlassSpindle x = of(BOWL + "set soon 0;speak 463=1" + "+1".repeat(462) + ";speak 1;");
        x.note(0, 0, 1, 1, NONE);
        due("a long sum", x.why(0, 0), 0);
    }

    private static void parts() {
        sentence("PART: a NUMBER, a fact, not PART, ( E )");
        for (String fact : FACTS) {
            due(fact, of("speak " + fact + ";speak not " + fact + ";speak (" + fact + ");").count(3), 3);
        }
        for (String word : "bowl tone size rimmed gilt spare pair within speak set treadle fingers reach soon dry dip warm cool crack along grind and or x".split(" ")) {
            fault(1, "speak ^" + word + ";");
            fault(1, "speak 1+^" + word + ";");
            fault(1, "speak not ^" + word + ";");
            fault(1, "speak (^" + word + ");");
        }
        fault(1, "bowl a tone 1 size 1 wall 1;speak ^a;");
        fault(1, "speak ^;");
        fault(1, "speak (^);");
        fault(1, "speak not^;");
        fault(1, "speak ^);");
        fault(1, "speak (1^;");
        fault(1, "speak (1 ^(2));");
        fault(1, "speak (1)^);");
        fault(1, "speak 1 ^not 1;");
        fault(1, "speak 1^(1);");
    }

    /** Bit by bit: not or ( ); what stands in the middle is within so many of them. */
    private static String within(int ways, int many, String middle) {
        String text = middle;
        for (int i = many - 1; i >= 0; i--) {
            text = (ways >> i & 1) == 0 ? "not " + text : "(" + text + ")";
        }
        return "speak " + text + ";";
    }

    private static void depth() {
        sentence("no PART lies within 5 of not and ( ); 5: not, or a PART, within 5 others");
        String[] middles = {"7", "0000", "speed", "press", "heat", "touch", "wall"};
        for (int ways = 0; ways < 32; ways++) {
            for (String middle : middles) {
                due("within 4", of(within(ways, 4, middle)).count(3), 1);
                fault(5, within(ways, 5, "^" + middle));
            }
            fault(5, within(ways, 5, "^not 1"));
            fault(5, within(ways, 5, "^(1)"));
            fault(5, within(ways, 5, "^not not 1"));
            fault(5, within(ways, 4, "not ^1"));
            fault(5, within(ways, 4, "(^1)"));
            fault(5, within(ways | 8, 4, "1+not ^1"));
            fault(5, within(ways, 4, "(^1+1)"));
            fault(1, within(ways, 5, "^;"));
            fault(1, within(ways, 5, "^x"));
            fault(1, within(ways, 5, "^12345"));
            fault(1, within(ways, 5, "^)"));
        }
    }

    private static void depthIsLeft() {
        sentence("no PART lies within 5 of not and ( ): those that are shut count no more");
        due("side by side", of("speak ((((1))))+((((1))))*((((1))));speak not not not not 1 and not not not not 1;").count(3), 2);
        due("behind not", of("speak not not not not 1+1*1=1;").count(3), 1);
        due("behind ( )", of("speak ((((1)+1)*1=1) or 1);").count(3), 1);
        due("in the next speak", of("speak ((((1))));speak ((((1))));").count(3), 2);
        fault(5, "speak ((((1)))+((((^1)))));");
    }

    private static void firstFault() {
        sentence("FAULTS: of the first token from the left that is wrong");
        fault(4, "set dry ^0;?");
        fault(4, "bowl a tone ^0 size 0 wall 0 x");
        fault(1, "set ^x 0;set y 0;");
        fault(3, BOWL + "bowl ^a tone 0 size 1 wall 1;");
        fault(2, TWO + "pair ^c 0 a 1 within 0;");
        fault(5, "speak 1;speak 1;speak 1;speak 1;^speak ?;");
        fault(1, "speak ^?;speak 1;speak 1;speak 1;speak 1;");
        fault(1, "^?bowl");
        fault(4, "set soon ^10;set soon 10;");
    }

    private static void leastFault() {
        sentence("FAULTS: of that token the least kind");
        fault(1, bowls(11, "") + "bowl l tone 1 size 1 wall 1 ^bowl m tone 1 size 1 wall 1;");
        fault(1, TWO + "pair a 1 b 1 within 0;".repeat(8) + "set ^pair 1;");
        fault(1, "speak 1;speak 1;speak 1;speak 1 ^speak 1;");
        fault(1, "set dry 1;set cool ^dry;");
        fault(1, BOWL + "set ^a 1;");
        fault(1, BOWL + "bowl b ^a 1 size 1 wall 1;");
        fault(1, "set dry ^50000;");
        fault(1, "bowl a tone 1 ^9999 size 1 wall 1;");
        fault(1, "^bow");
        fault(1, "^0");
    }

    private static void theEnd() {
        sentence("the end being one at the text's length");
        String[] lines = {"bowl c tone 1 size 1 wall 1 gilt ;", "pair a 1 b 1 within 0 ;", "speak not ( 1 + speed * 2 ) < 3 and wall or touch = 4 ;", "set dry 5 ;"};
        for (String line : lines) {
            for (int at = 1; at < line.length(); at++) {
                if (line.charAt(at) == ' ') {
                    String cut = TWO + line.substring(0, at);
                    faultAt(1, cut.length(), cut);
                    faultAt(1, cut.length() + 4, cut + " \n  ");
                }
            }
            due("the whole line", of(TWO + line + " \n").count(17), NONE);
        }
        faultAt(1, 4, "bowl");
        faultAt(1, 3, "set");
        String whole = "bowl ab tone 1234 size 56 wall 12 gilt;bowl aba tone 1 size 1 wall 1;pair ab 12 aba 10 within 1234;speak not(123+speed)<press;set crack 123;";
        GlassSpindle x = new GlassSpindle();
        for (int end = 0; end <= whole.length(); end++) {
            String cut = whole.substring(0, end);
            due("the whole text", read(x, whole), 0);
            due("behind it " + cut, read(x, cut), read(new GlassSpindle(), cut));
        }
        due("a number too great", read(x, "set dip 201;"), 4 + 16 * 8);
        due("its first two digits behind it", read(x, "set dip 20"), 1 + 16 * 10);
        due("a number too long", read(x, "set dip 00201;"), 1 + 16 * 8);
        due("its first four digits behind it", read(x, "set dip 0020"), 1 + 16 * 12);
    }

    private static void lines() {
        sentence("SPINDLE: any number of lines, each with ; behind");
        due("none", of("").count(0), 0);
        due("blanks alone", of(" \n ").count(0), 0);
        fault(1, "^;");
        fault(1, "set dry 5;^;");
        fault(1, BOWL + "^;");
        fault(1, "bowl a tone 1 size 1 wall 1 ^bowl b tone 1 size 1 wall 1;");
        fault(1, "bowl a tone 1 size 1 wall 1 gilt ^set dry 1;");
        fault(1, TWO + "pair a 1 b 1 within 0 ^pair a 1 b 1 within 0;");
        fault(1, "speak 1 ^speak 1;");
        fault(1, "set dry 1 ^set cool 1;");
        for (String word : "tone size wall rimmed gilt spare within dry not and or speed x".split(" ")) {
            fault(1, "^" + word);
            fault(1, "set dry 5;^" + word);
        }
        for (String word : "size wall x within 1".split(" ")) {
            fault(1, "bowl a ^" + word + " 1 size 1 wall 1;");
        }
        fault(1, "bowl a tone 1 ^wall 1;");
        fault(1, "bowl a tone 1 size 1 ^;");
        fault(1, TWO + "pair a 1 b 1 ^;");
        fault(1, TWO + "pair a 1 b 1 ^0;");
        due("in any order", of("set dry 5;speak 1;" + TWO + "pair a 1 b 1 within 0;set dip 3;bowl c tone 1 size 1 wall 1;speak 0;pair c 1 a 1 within 0;").count(2), 2);
    }

    private static void withoutAFault() {
        sentence("Without a FAULT it is the SPINDLE from then on; NOTES are gone then (MARKS stay)");
        GlassSpindle x = of(TWO + "pair a 1 b 1 within 0;speak 0;set soon 0;set dry 9;");
        x.note(0, 5, 1, 1, NONE);
        x.mark(2, false);
        due("a fault", read(x, BOWL + "?"), 1 + 16 * 28);
        due("all stays", "" + x.count(0) + x.count(1) + x.count(2) + x.count(3) + x.count(4) + x.count(8) + x.count(9), "2211109");
        due("the law stays", x.why(0, 5), 4);
        due("no fault", read(x, BOWL), 0);
        due("all is new", "" + x.count(0) + x.count(1) + x.count(2) + x.count(3) + x.count(4) + x.count(8) + x.count(9), "11000112");
        due("a pair is gone", x.beating(0), NONE);
        due("from the first beat again", x.note(0, 0, 2, 1, NONE), 0);
        due("the law is gone", x.why(0, 1), 0);
        due("the mark stays", x.mark(2, true), true);
        due("all is back", "" + x.count(0) + x.count(1) + x.count(2) + x.count(3) + x.count(4) + x.count(8) + x.count(9), "2211109");
        due("the law is back", x.why(0, 5), 4);
    }

    private static void lawsOfOldTexts() {
        sentence("Without a FAULT it is the SPINDLE from then on: laws of a text before, or of one with a FAULT, don't count");
        GlassSpindle x = of("speak 0;speak speed;");
        for (String law : new String[] {"1", "0", "press", "press=2", "1"}) {
            due("a text with a fault", read(x, "speak 0=1;speak 1;set dry ?"), 1 + 16 * 26);
            due("a new law " + law, read(x, BOWL + "set soon 0;set warm 0;speak " + law + ";"), 0);
            due("laws", x.count(3), 1);
            x.note(0, 0, 1, 1, NONE);
            due("by it alone " + law, x.why(0, 0), law.equals("0") || law.equals("press=2") ? 4 : 0);
        }
        for (String law : new String[] {"1", "0", "1+1", "not not not 1", "not not 1", "not 1", "1", "0"}) {
            due("a law with not", read(x, "speak not(1 and not(0 or 0)) and not not 0;"), 0);
            due("another one", read(x, BOWL + "set soon 0;speak " + law + ";"), 0);
            x.note(0, 0, 1, 1, NONE);
            due("by it alone " + law, x.why(0, 0), law.equals("0") || law.equals("not 1") || law.equals("not not not 1") ? 4 : 0);
            due("a law with not right behind it", read(x, "speak not 0;"), 0);
        }
        due("one sign", read(x, BOWL + "set soon 0;speak 1;"), 0);
        x.note(0, 0, 1, 1, NONE);
        due("by it alone", x.why(0, 0), 0);
        String longest = "speak 1" + "*1".repeat(480) + ";";
        for (int i = 0; i < 4; i++) {
            due("a long law", read(x, BOWL + longest.substring(0, 903) + "*0;"), 0);
            x.note(0, 1, 2, 1, NONE);
            due("its end counts", x.why(0, 2), 4);
            due("a short one behind it", read(x, BOWL + "speak 1;"), 0);
            x.note(0, 1, 2, 1, NONE);
            due("counts", x.why(0, 2), 0);
        }
    }

    private static void places() {
        sentence("BOWLS that are no spares have PLACES on the spindle, from 0, as told");
        GlassSpindle x = of(bowls(12, ""));
        due("the first and the last one", "" + x.bowl(0, 4) + x.bowl(11, 4) + x.count(1), "01112");
        x = of("bowl a tone 1 size 1 wall 1 spare;bowl b tone 1 size 1 wall 1 gilt;bowl c tone 1 size 1 wall 1 spare;bowl d tone 1 size 1 wall 1 rimmed;bowl e tone 1 size 1 wall 1;bowl f tone 1 size 1 wall 1 spare;");
        due("spares between", "" + x.bowl(0, 4) + x.bowl(1, 4) + x.bowl(2, 4) + x.bowl(3, 4) + x.bowl(4, 4) + x.bowl(5, 4), "-10-112-1");
        due("with places", x.count(1), 3);
        x = of(bowls(12, " spare"));
        due("spares alone", "" + x.bowl(0, 4) + x.bowl(11, 4) + x.count(1), "-1-10");
    }
}
