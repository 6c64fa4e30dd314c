/** For each promise: what is usual, the edges that the document names, and wrong inputs; reckoned by hand. */
public final class PromiseRuns extends Asking {
    private PromiseRuns() { }

    public static void main(String[] args) {
        newObject();
        feeding();
        spindleLines();
        spindleNames();
        spindleFaults();
        spindleDepth();
        spindleTokens();
        bowl();
        note();
        dropAndFinger();
        noteOf();
        touched();
        warmth();
        cracked();
        why();
        laws();
        speaksAndSounds();
        along();
        silence();
        best();
        wrongFingers();
        dryFingers();
        judgedAndLifts();
        fewest();
        far();
        pairs();
        ground();
        spareAndExchange();
        movedAndOrder();
        marks();
        counts();
        end("promises");
    }

    private static void newObject() {
        sentence("1");
        GlassSpindle x = new GlassSpindle();
        int[] counts = {0, 0, 0, 0, 0, 10, 2, 4, 1, 12, 2, 3, 1, 5, 0, 1, 0, NONE};
        for (int i = 0; i < counts.length; i++) {
            due("count(" + i + ")", x.count(i), counts[i]);
        }
        due("bowl(0, 0)", x.bowl(0, 0), NONE);
        due("note", x.note(0, 0, 1, 1, 0), NONE);
        due("drop", x.drop(), false);
        due("sounds(0)", x.sounds(0), 0);
        due("along(0)", x.along(0), 0);
        due("far", x.far(), 0);
        due("fewest", x.fewest(), 0);
        due("groundOf(0)", groundOf(x, 0), THROWS);
        due("order", x.order(), 0);
        due("ordered(0)", x.ordered(0), NONE);
        due("mark(0, true)", x.mark(0, true), false);
    }

    private static void feeding() {
        sentence("2");
        GlassSpindle x = new GlassSpindle();
        due("feed nothing", x.feed(0, 0, 0), 0);
        due("feed others", x.feed(-1L, 0x1f7f80ff090b0d00L, 0), 0);
        due("feed edges", x.feed(0x0a207e0000000000L, 0x1f7f000000000000L, 0x61L), 4);
        due("spindle reads ~ at 2", x.spindle(), 1 + 16 * 2);
        // The highest byte comes first: "set dry " "3;" and nothing else.
        due("feed a line", x.feed(0x7365742064727920L, 0x333b000000000000L, 0), 10);
        due("spindle", x.spindle(), 0);
        due("count(9)", x.count(9), 3);
        for (int i = 1; i <= 41; i++) {
            due("feed " + i, x.feed(0x2020202020202020L, 0x2020202020202020L, 0x2020202020202020L), i * 24);
        }
        due("feed to the brim", x.feed(0x2020202020202020L, 0x2020202020202020L, 0x2020202020202020L), 1000);
        due("feed beyond", x.feed(0x6161616161616161L, 0, 0), 1000);
        due("spindle of blanks", x.spindle(), 0);
    }

    private static void spindleLines() {
        sentence("3");
        GlassSpindle x = of("");
        due("count(0)", x.count(0), 0);
        x = of(" \n bowl\na tone1size 1wall 1 ;bowl b tone 9999 size 99 wall 20rimmed;bowl c tone 0007 size 07 wall 0007 spare;"
            + "pair a 1 b 20 within 0;pair c 20 a 1 within 9999;speak 1;speak not speed or heat and touch<wall*press-3+(2=0);");
        due("count(0)", x.count(0), 3);
        due("count(1)", x.count(1), 2);
        due("count(2)", x.count(2), 2);
        due("count(3)", x.count(3), 2);
        due("tone of c", x.bowl(2, 0), 7);
        due("wall of c", x.bowl(2, 2), 7);
        due("beating(0)", x.beating(0), 9999 - 20);
        String[] whats = {"treadle", "fingers", "reach", "soon", "dry", "dip", "warm", "cool", "crack", "along", "grind"};
        int[] least = {1, 1, 1, 0, 1, 1, 0, 0, 1, 0, 1};
        int[] most = {99, 3, 12, 9, 99, 20, 99, 99, 999, 999, 99};
        for (int i = 0; i < whats.length; i++) {
            due(whats[i] + " least", of("set " + whats[i] + " " + least[i] + ";").count(5 + i), least[i]);
            due(whats[i] + " most", of("set " + whats[i] + " " + most[i] + ";").count(5 + i), most[i]);
            String set = "set " + whats[i] + " ";
            faultAt(4, set.length(), set + (most[i] + 1) + ";");
            if (least[i] == 1) {
                faultAt(4, set.length(), set + "0;");
            }
            faultAt(3, set.length() + 2 + 4, set + "1;" + set + "0;");
        }
        x = of("set warm 7;" + BOWL);
        due("note", x.note(0, 0, 1, 1, 0), 0);
        feed(x, "bowl");
        due("a fault", x.spindle(), 1 + 16 * 4);
        due("all stays: NOTES", x.count(4), 1);
        due("all stays: BOWLS", x.count(0), 1);
        due("all stays: warm", x.count(11), 7);
        due("an empty tape", x.spindle(), 0);
        due("BOWLS are gone", x.count(0), 0);
        due("NOTES are gone", x.count(4), 0);
        due("warm is as without a line", x.count(11), 3);
    }

    private static void spindleNames() {
        sentence("3, names");
        String[] reserved = {"bowl", "tone", "size", "wall", "rimmed", "gilt", "spare", "pair", "within", "speak", "set", "treadle", "fingers",
            "reach", "soon", "dry", "dip", "warm", "cool", "crack", "along", "grind", "not", "and", "or"};
        for (String word : reserved) {
            faultAt(1, 5, "bowl " + word + " tone 1 size 1 wall 1;");
            faultAt(1, BOWL.length() + 5, BOWL + "pair " + word + " 1 a 1 within 0;");
            faultAt(1, BOWL.length() + 9, BOWL + "pair a 1 " + word + " 1 within 0;");
        }
        for (String word : new String[] {"speed", "press", "heat", "touch", "plain", "abcdefgh", "bowls", "o"}) {
            due("NAME " + word, of("bowl " + word + " tone 1 size 1 wall 1;bowl z tone 1 size 1 wall 1;pair z 1 " + word + " 1 within 0;").count(2), 1);
        }
        faultAt(1, 5, "bowl abcdefghi tone 1 size 1 wall 1;");
        faultAt(1, 5, "bowl 1 tone 1 size 1 wall 1;");
        faultAt(3, 28 + 29 + 5, BOWL + "bowl aa tone 1 size 1 wall 1;bowl aa tone 1 size 1 wall 1;");
        faultAt(2, 28 + 5, BOWL + "pair aa 1 a 1 within 0;");
        faultAt(2, 28 + 9, BOWL + "pair a 1 aa 1 within 0;");
        faultAt(3, 28 + 9, BOWL + "pair a 1 a 1 within 0;");
    }

    private static void spindleFaults() {
        sentence("3, faults");
        faultAt(1, 0, "x");
        faultAt(1, 1, " ;");
        faultAt(1, 4, "bowl");
        faultAt(1, 7, "bowl  \n");
        faultAt(1, 11, "bowl a tone");
        faultAt(1, 7, "bowl a size 1");
        faultAt(1, 12, "bowl a tone x");
        faultAt(1, 12, "bowl a tone 10000 size 1 wall 1;");
        faultAt(4, 19, "bowl a tone 1 size 0 wall 1;");
        faultAt(4, 19, "bowl a tone 1 size 100 wall 1;");
        faultAt(4, 26, "bowl a tone 1 size 1 wall 0;");
        faultAt(1, 28, "bowl a tone 1 size 1 wall 1 plain;");
        faultAt(1, 33, "bowl a tone 1 size 1 wall 1 gilt gilt;");
        faultAt(1, 27, "bowl a tone 1 size 1 wall 1");
        String two = BOWL + "bowl b tone 1 size 1 wall 1;";
        faultAt(4, 56 + 7, two + "pair a 0 b 1 within 0;");
        faultAt(4, 56 + 7, two + "pair a 21 b 1 within 0;");
        faultAt(4, 56 + 11, two + "pair a 1 b 21 within 0;");
        faultAt(1, 56 + 19, two + "pair a 1 b 1 within;");
        faultAt(1, 56 + 22, two + "pair a 1 b 1 within 1 gilt;");
        faultAt(1, 4, "set speed 1;");
        faultAt(1, 4, "set 1;");
        faultAt(1, 8, "set dry dry;");
        faultAt(1, 5, "speak;");
        faultAt(1, 7, "speak 1");
        faultAt(1, 8, "speak 1 2;");
        faultAt(1, 6, "speak a;");
        faultAt(1, 6, "speak dry;");
        faultAt(1, 9, "speak 1=1=1;");
        faultAt(1, 10, "speak (1<1=1);");
        faultAt(1, 6, "speak -1;");
        faultAt(1, 8, "speak 1+;");
        faultAt(1, 11, "speak 1 and;");
        faultAt(1, 6, "speak and 1;");
        faultAt(1, 8, "speak (1;");
        faultAt(1, 7, "speak 1);");
        faultAt(1, 7, "speak ();");
        faultAt(1, 9, "speak not;");
        faultAt(1, 8, "speak 1 not 1;");
        String twelve = bowls(12, "");
        due("twelve", of(twelve).count(0), 12);
        faultAt(5, twelve.length(), twelve + "bowl");
        faultAt(5, twelve.length(), twelve + "bowl a tone 1 size 1 wall 1;");
        StringBuilder pairs = new StringBuilder(two);
        for (int i = 0; i < 8; i++) {
            pairs.append("pair a 1 b 1 within 0;");
        }
        due("eight pairs", of(pairs.toString()).count(2), 8);
        faultAt(5, pairs.length(), pairs + "pair x");
        due("four speaks", of("speak 1;speak 1;speak 1;speak 1;").count(3), 4);
        faultAt(5, 32, "speak 1;speak 1;speak 1;speak 1;speak ?");
    }

    private static void spindleDepth() {
        sentence("3, depth");
        due("four", of("speak ((((1))));speak not not not not 1;speak not(not(1));").count(3), 3);
        faultAt(5, 11, "speak (((((1)))));");
        faultAt(5, 11, "speak (((((wall)))));");
        faultAt(5, 11, "speak (((((not 1)))));");
        faultAt(5, 11, "speak ((((((1))))));");
        faultAt(1, 11, "speak ((((()))));");
        faultAt(1, 11, "speak (((((a)))));");
        faultAt(1, 11, "speak (((((12345)))));");
        faultAt(5, 26, "speak not not not not not 1;");
        faultAt(5, 26, "speak not not not not not not 1;");
        due("not and ( ) together", of("speak not(not(1+press));speak not((not 1)+(2));").count(3), 2);
        faultAt(5, 18, "speak not(not(not 1));");
        faultAt(5, 17, "speak not(not(not(1)));");
        faultAt(5, 15, "speak not(not((1)));");
    }

    private static void spindleTokens() {
        sentence("3, tokens");
        faultAt(1, 5, "bowl A");
        faultAt(1, 28, "bowl a tone 1 size 1 wall 1 , ;");
        faultAt(1, 8, "set dry 12345;");
        due("leading noughts", of("set dry 0012;").count(9), 12);
        faultAt(1, 8, "set dry 00012;");
        faultAt(1, 10, "set dry 1 2;");
        faultAt(1, 10, "set dry12;abcdefghi");
        faultAt(1, 7, "speak 1>0;");
        faultAt(1, 8, "speak 1<=2;");
        due("a letter behind a number", of("speak 1and 2or 3;").count(3), 1);
        faultAt(1, 0, ";".repeat(1000));
        String ones = "bowl a tone 1 size 1 wall 1;set soon 0;speak 474=1" + "+1".repeat(473) + ";   ";
        due("signs of the longest", ones.length(), 1000);
        GlassSpindle x = of(ones);
        x.note(0, 0, 1, 1, NONE);
        due("the longest law", why(x, 0, 0), 0);
        due("the signs", of("speak(1+2-3*4=0);").count(3), 1);
    }

    private static void bowl() {
        sentence("4");
        GlassSpindle x = of("bowl a tone 12 size 34 wall 5 spare;bowl b tone 6 size 7 wall 8;bowl c tone 9999 size 99 wall 20 rimmed;bowl d tone 1 size 1 wall 1 gilt;");
        int[][] all = {{12, 34, 5, 3, NONE}, {6, 7, 8, 0, 0}, {9999, 99, 20, 1, 1}, {1, 1, 1, 2, 2}};
        for (int b = 0; b < 4; b++) {
            for (int w = 0; w < 5; w++) {
                due("bowl(" + b + ", " + w + ")", x.bowl(b, w), all[b][w]);
            }
        }
        due("bowl(-1, 0)", x.bowl(-1, 0), NONE);
        due("bowl(4, 0)", x.bowl(4, 0), NONE);
        due("bowl(0, -1)", x.bowl(0, -1), NONE);
        due("bowl(0, 5)", x.bowl(0, 5), NONE);
        due("bowl(max)", x.bowl(Integer.MAX_VALUE, Integer.MIN_VALUE), NONE);
    }

    private static void note() {
        sentence("5");
        GlassSpindle x = of("bowl a tone 1 size 1 wall 1;bowl b tone 1 size 1 wall 1 spare;set fingers 3;");
        due("no such bowl", x.note(2, 0, 1, 1, 0), NONE);
        due("no such bowl", x.note(-1, 0, 1, 1, 0), NONE);
        due("a spare", x.note(1, 0, 1, 1, 0), NONE);
        due("from -1", x.note(0, -1, 1, 1, 0), NONE);
        due("from 200", x.note(0, 200, 1, 1, 0), NONE);
        due("length 0", x.note(0, 0, 0, 1, 0), NONE);
        due("length 41", x.note(0, 0, 41, 1, 0), NONE);
        due("press 0", x.note(0, 0, 1, 0, 0), NONE);
        due("press 10", x.note(0, 0, 1, 10, 0), NONE);
        due("finger 6", x.note(0, 0, 1, 1, 6), NONE);
        due("finger -2", x.note(0, 0, 1, 1, -2), NONE);
        due("overflow", x.note(0, Integer.MAX_VALUE, 40, 1, 0), NONE);
        due("overflow", x.note(0, 0, Integer.MAX_VALUE, 1, 0), NONE);
        due("the first", x.note(0, 3, 40, 9, 5), 0);
        due("ahead of it", x.note(0, 2, 1, 1, 5), NONE);
        due("with it", x.note(0, 3, 1, 1, NONE), 1);
        due("beyond the beats", x.note(0, 161, 40, 1, 0), NONE);
        due("up to the last beat", x.note(0, 160, 40, 1, 0), 2);
        for (int i = 3; i < 24; i++) {
            due("note " + i, x.note(0, 199, 1, 1, 0), i);
        }
        due("a 25th", x.note(0, 199, 1, 1, 0), NONE);
        due("count(4)", x.count(4), 24);
    }

    private static void dropAndFinger() {
        sentence("6, 7");
        GlassSpindle x = of(BOWL + "set fingers 1;");
        due("drop nothing", x.drop(), false);
        x.note(0, 5, 1, 1, 0);
        x.note(0, 9, 1, 1, 1);
        due("drop", x.drop(), true);
        due("count(4)", x.count(4), 1);
        due("the note before counts", x.note(0, 4, 1, 1, 0), NONE);
        due("note", x.note(0, 5, 1, 1, 0), 1);
        due("finger(1, 1)", x.finger(1, 1), true);
        due("noteOf(1, 4)", x.noteOf(1, 4), 1);
        due("finger(1, 1) again", x.finger(1, 1), true);
        due("finger(1, NONE)", x.finger(1, NONE), true);
        due("noteOf(1, 4)", x.noteOf(1, 4), NONE);
        due("finger(1, 2)", x.finger(1, 2), false);
        due("finger(1, -2)", x.finger(1, -2), false);
        due("finger(2, 0)", x.finger(2, 0), false);
        due("finger(-1, 0)", x.finger(-1, 0), false);
        due("noteOf(1, 4) stays", x.noteOf(1, 4), NONE);
        due("drop", x.drop() && x.drop(), true);
        due("drop nothing", x.drop(), false);
        due("from the beginning again", x.note(0, 0, 1, 1, 0), 0);
    }

    private static void noteOf() {
        sentence("8");
        GlassSpindle x = of(BOWL + "bowl b tone 1 size 1 wall 1;");
        x.note(1, 7, 11, 4, 3);
        int[] all = {1, 7, 11, 4, 3, NONE};
        for (int w = -1; w < 6; w++) {
            due("noteOf(0, " + w + ")", x.noteOf(0, w), w < 0 ? NONE : all[w]);
        }
        due("noteOf(1, 0)", x.noteOf(1, 0), NONE);
        due("noteOf(-1, 0)", x.noteOf(-1, 0), NONE);
    }

    private static void touched() {
        sentence("9");
        GlassSpindle x = of(BOWL + "bowl b tone 1 size 1 wall 1;bowl c tone 1 size 1 wall 1 spare;");
        x.note(0, 2, 3, 4, 0);
        x.note(0, 3, 1, 5, 1);
        x.note(1, 3, 2, 7, 2);
        int[] press = {0, 0, 4, 9, 4, 0};
        for (int t = 0; t < 6; t++) {
            due("touched(0, " + t + ")", x.touched(0, t), press[t]);
        }
        due("touched(1, 4)", x.touched(1, 4), 7);
        due("touched(2, 4): a spare", x.touched(2, 4), 0);
        due("touched(3, 4)", x.touched(3, 4), NONE);
        due("touched(-1, 4)", x.touched(-1, 4), NONE);
        due("touched(0, -1)", x.touched(0, -1), NONE);
        due("touched(0, 199)", x.touched(0, 199), 0);
        due("touched(0, 200)", x.touched(0, 200), NONE);
    }

    private static void warmth() {
        sentence("10");
        GlassSpindle x = of("bowl a tone 1 size 1 wall 1;bowl b tone 1 size 1 wall 1 rimmed;bowl c tone 1 size 1 wall 1 gilt;bowl d tone 1 size 1 wall 1 spare;set warm 3;set cool 2;");
        for (int b = 0; b < 3; b++) {
            x.note(b, 1, 2, 1, NONE);
        }
        for (int b = 0; b < 3; b++) {
            x.note(b, 2, 1, 2, NONE);
        }
        int[] plain = {0, 0, 3, 12, 10, 8, 6, 4, 2, 0, 0};
        int[] half = {0, 0, 1, 5, 3, 1, 0, 0};
        for (int t = 0; t < plain.length; t++) {
            due("warmth(0, " + t + ")", x.warmth(0, t), plain[t]);
        }
        for (int t = 0; t < half.length; t++) {
            due("warmth(1, " + t + ")", x.warmth(1, t), half[t]);
            due("warmth(2, " + t + ")", x.warmth(2, t), half[t]);
        }
        due("warmth(3, 3)", x.warmth(3, 3), 0);
        due("warmth(4, 3)", x.warmth(4, 3), NONE);
        due("warmth(-1, 3)", x.warmth(-1, 3), NONE);
        due("warmth(0, -1)", x.warmth(0, -1), NONE);
        due("warmth(0, 200)", x.warmth(0, 200), NONE);
        x.drop();
        due("warmth behind a drop", x.warmth(2, 3), 2);
    }

    private static void cracked() {
        sentence("11");
        GlassSpindle x = of("bowl a tone 1 size 1 wall 2;bowl b tone 1 size 1 wall 2;bowl c tone 1 size 1 wall 1;set warm 2;set crack 3;set cool 99;");
        x.note(0, 0, 3, 1, 0);
        x.note(1, 0, 4, 1, 1);
        due("up to the limit", x.cracked(0), NONE);
        due("above the limit", x.cracked(1), 4);
        due("never touched", x.cracked(2), NONE);
        due("no such", x.cracked(3), NONE);
        due("no such", x.cracked(-1), NONE);
        x.note(1, 10, 3, 1, 1);
        due("ever since", why(x, 2, 12), 2);
        due("cold again", x.warmth(1, 10), 0);
        x = of(BOWL + "set crack 1;");
        x.note(0, 199, 1, 9, 0);
        due("behind the last beat", x.cracked(0), NONE);
        x.drop();
        x.note(0, 198, 2, 9, 0);
        due("in the last beat", x.cracked(0), 199);
    }

    private static void why() {
        sentence("12");
        GlassSpindle x = of("bowl a tone 1 size 1 wall 1;set soon 2;set dry 4;set crack 4;set warm 1;speak touch<3;");
        x.note(0, 10, 8, 1, 0);
        // Warmth is 5 as beat 15 begins; the finger is dry from beat 14 on; touch is 3 in beat 13.
        Object[] all = {1, 1, 0, 4, 3, 2, 2, 2};
        for (int i = 0; i < all.length; i++) {
            due("why(0, " + (10 + i) + ")", why(x, 0, 10 + i), all[i]);
        }
        due("ahead", why(x, 0, 9), THROWS);
        due("behind", why(x, 0, 18), THROWS);
        due("no such", why(x, 1, 10), THROWS);
        due("no such", why(x, -1, 10), THROWS);
        due("no such beat", why(x, 0, 200), THROWS);
        x.finger(0, NONE);
        due("without a finger never dry", why(x, 0, 14), 4);
        x = of(BOWL + "set soon 0;");
        x.note(0, 0, 1, 1, NONE);
        due("soon 0", why(x, 0, 0), 0);
    }

    private static int lawAt(String law, int press, int beat) {
        GlassSpindle x = of("bowl a tone 1 size 7 wall 9;bowl b tone 1 size 7 wall 9 gilt;set soon 0;set treadle 6;set warm 2;speak " + law + ";");
        x.note(0, 0, 40, press, NONE);
        return x.why(0, beat);
    }

    private static void laws() {
        sentence("12, laws");
        due("speed", lawAt("speed=42", 1, 0), 0);
        due("press", lawAt("press=5", 5, 0), 0);
        due("heat", lawAt("heat=6", 1, 3), 0);
        due("touch", lawAt("touch=3", 1, 3), 0);
        due("wall", lawAt("wall=9", 1, 3), 0);
        due("0", lawAt("0", 1, 0), 4);
        due("7", lawAt("7", 1, 0), 0);
        due("below 0 is so", lawAt("1-2", 1, 0), 0);
        due("not", lawAt("not 5=0", 1, 0), 0);
        due("not 1", lawAt("not 1=0", 1, 0), 0);
        due("not 0", lawAt("not 0=1", 1, 0), 0);
        due("not binds closer than *", lawAt("not 0*0", 1, 0), 4);
        due("from the left: or, and", lawAt("1 or 1 and 0", 1, 0), 4);
        due("from the left: and, or", lawAt("0 and 0 or 1", 1, 0), 0);
        due("and makes 1", lawAt("(2 and 4)=1", 1, 0), 0);
        due("or makes 1", lawAt("(0 or 4)=1", 1, 0), 0);
        due("or of 0", lawAt("0 or 0", 1, 0), 4);
        due("minus from the left", lawAt("9-3-2=4", 1, 0), 0);
        due("times before plus", lawAt("2+3*4=14", 1, 0), 0);
        due("plus before less", lawAt("2<1+2", 1, 0), 0);
        due("less is not equal", lawAt("2<2", 1, 0), 4);
        due("brackets", lawAt("(2+3)*4=20", 1, 0), 0);
        due("a test in brackets", lawAt("(1<2)+(2=2)=2", 1, 0), 0);
        due("ints wrap", lawAt("8192*8192*64=0", 1, 0), 0);
        due("ints wrap", lawAt("8192*8192*32<0", 1, 0), 0);
        due("deepest operands", lawAt("0 or 1<1+1*(0 or 1<1+1*(0 or 1<1+1*(0 or 1<1+1*(0 or 1<1+1*1))))", 1, 0), 0);
        GlassSpindle x = of("bowl b tone 1 size 7 wall 9 gilt;set soon 0;speak press=0;speak 1;");
        x.note(0, 0, 1, 1, NONE);
        due("gilt: press is one less", why(x, 0, 0), 0);
        x = of("bowl b tone 1 size 7 wall 9 rimmed;set soon 0;speak 1;speak press=0;");
        x.note(0, 0, 1, 1, NONE);
        due("rimmed: its own press; the last speak counts", why(x, 0, 0), 4);
    }

    private static void speaksAndSounds() {
        sentence("13, 14");
        GlassSpindle x = of(bowls(3, "") + "set soon 1;speak touch<3;");
        x.note(0, 0, 5, 1, 0);
        x.note(1, 1, 2, 1, 1);
        x.note(0, 1, 1, 1, 2);
        due("speaks(0)", x.speaks(0), 2);
        due("speaks(1)", x.speaks(1), 1);
        due("speaks(2)", x.speaks(2), 0);
        due("speaks(3)", x.speaks(3), NONE);
        due("speaks(-1)", x.speaks(-1), NONE);
        int[] bits = {0, 1, 3, 0, 0, 0};
        for (int t = 0; t < bits.length; t++) {
            due("sounds(" + t + ")", x.sounds(t), bits[t]);
        }
        due("sounds(-1)", x.sounds(-1), NONE);
        due("sounds(199)", x.sounds(199), 0);
        due("sounds(200)", x.sounds(200), NONE);
        x = of("bowl a tone 1 size 1 wall 20;set soon 0;set warm 0;");
        for (int i = 0; i < 24; i++) {
            x.note(0, 0, 1, 1, NONE);
        }
        due("sounds of 24", x.sounds(0), (1 << 24) - 1);
    }

    private static void along() {
        sentence("15");
        String all = "bowl a tone 100 size 1 wall 20;bowl s tone 110 size 1 wall 20 spare;bowl b tone 110 size 1 wall 20;bowl c tone 121 size 1 wall 20;bowl d tone 110 size 1 wall 20;";
        GlassSpindle x = of(all + "set along 10;set soon 0;set warm 0;");
        x.note(2, 0, 1, 1, NONE);
        due("next and near in tone", x.along(0), 1);
        x.note(3, 1, 1, 1, NONE);
        due("too far in tone", x.along(1), 0);
        x.note(2, 2, 1, 1, NONE);
        x.note(0, 2, 1, 1, NONE);
        due("touched itself", x.along(2), 0);
        x.exchange(3, 1);
        due("a spare exchanged", x.along(0), 1 + 2);
        due("along(-1)", x.along(-1), NONE);
        due("along(200)", x.along(200), NONE);
        x = of(all + "set along 999;set soon 1;set warm 0;");
        x.note(2, 0, 2, 1, NONE);
        due("none speaks", x.along(0), 0);
        due("both sides", x.along(1), 1 + 8);
        x = of("bowl a tone 5 size 1 wall 1;bowl b tone 5 size 1 wall 1;bowl c tone 6 size 1 wall 1;set soon 0;set crack 8;");
        x.note(1, 0, 1, 1, NONE);
        x.note(0, 0, 1, 3, NONE);
        x.note(1, 1, 1, 1, NONE);
        due("cracked ones don't, and along is 0 untold", x.along(1), 0);
        x.finger(0, NONE);
        x = of("bowl a tone 5 size 1 wall 1;bowl b tone 5 size 1 wall 1;bowl c tone 6 size 1 wall 1;set soon 0;");
        x.note(1, 0, 1, 1, NONE);
        due("along 0: tones alike", x.along(0), 1);
    }

    private static void silence() {
        sentence("16");
        GlassSpindle x = of(bowls(3, "") + "set soon 1;speak touch<2;");
        x.note(0, 3, 4, 1, NONE);
        x.note(1, 4, 2, 1, NONE);
        // Beat 3: too soon; 4: speaks; 5: the second speaks; 6: the law.
        due("silence(0, 0)", x.silence(0, 0), 3);
        due("silence(0, 1)", x.silence(0, 1), 0);
        due("silence(0, 2)", x.silence(0, 2), 1);
        due("silence(4, 0)", x.silence(4, 0), 6);
        due("silence(6, 2)", x.silence(6, 2), 4);
        due("silence(7, 0)", x.silence(7, 0), NONE);
        due("silence(7, 1)", x.silence(7, 1), NONE);
        due("silence(7, 2)", x.silence(7, 2), NONE);
        due("another what", x.silence(0, 3), NONE);
        due("another what", x.silence(0, -1), NONE);
        due("another beat", x.silence(-1, 0), NONE);
        due("another beat", x.silence(200, 0), NONE);
        x.note(2, 199, 1, 1, NONE);
        due("in the last beat", x.silence(199, 0), 199);
        due("whose", x.silence(7, 1), 2);
        x = of(bowls(2, "") + "set dry 1;set soon 0;speak 0;");
        x.note(0, 0, 2, 1, 0);
        x.note(1, 1, 1, 1, NONE);
        due("by the first that lasts", x.silence(1, 1), 0);
        due("why that one", x.silence(1, 2), 3);
    }

    private static void best() {
        sentence("17, 18");
        GlassSpindle x = of("bowl a tone 1 size 3 wall 20;bowl b tone 1 size 5 wall 20;set soon 0;set warm 0;set treadle 50;speak 29<speed and speed<61;");
        x.note(0, 0, 3, 1, NONE);
        x.note(1, 0, 2, 1, NONE);
        // a speaks at 10 to 20, b at 6 to 12.
        int[] at = {NONE, 0, 0, 0, 0, 0, 2, 2, 2, 2, 5, 5, 5, 3, 3, 3, 3, 3, 3, 3, 3, 0};
        for (int t = 0; t < at.length; t++) {
            due("atTreadle(" + t + ")", x.atTreadle(t), at[t]);
        }
        due("atTreadle(99)", x.atTreadle(99), 0);
        due("atTreadle(100)", x.atTreadle(100), NONE);
        due("best(0)", x.best(0), 10);
        due("best(1)", x.best(1), 5);
        due("best(2)", x.best(2), NONE);
        due("best(-1)", x.best(-1), NONE);
        due("count(5) stays", x.count(5), 50);
        due("speaks(0) stays", x.speaks(0), 0);
        x = of("bowl a tone 1 size 1 wall 20;set soon 0;set warm 0;set treadle 7;speak 98<speed;");
        x.note(0, 0, 3, 1, NONE);
        due("the last treadle", x.best(0), 99);
        x = of("bowl a tone 1 size 1 wall 20;set soon 0;set warm 0;set treadle 7;speak press=2;");
        x.note(0, 0, 3, 1, NONE);
        due("all alike: the least", x.best(0), 1);
        due("a law without speed", x.atTreadle(3), 0);
        x = of("bowl a tone 1 size 1 wall 1;set soon 1;set dry 5;set crack 7;set warm 1;speak 3<speed;speak not(touch=2);");
        x.note(0, 0, 9, 1, NONE);
        x.note(0, 9, 1, 1, 0);
        // Of beats 0 to 8 the first is too soon, the third unlawful; it is cracked from beat 8 on.
        due("what else keeps silent", x.atTreadle(4), 6);
        x.finger(0, 3);
        due("a dry finger, too", x.atTreadle(4), 3);
        due("at the treadle told", x.atTreadle(10), 3);
        due("too slow", x.atTreadle(3), 0);
        due("best of them", "" + x.best(0) + x.best(1), "43");
    }

    private static void wrongFingers() {
        sentence("19");
        GlassSpindle x = of(bowls(12, "") + "set fingers 3;set reach 2;set dry 99;");
        x.note(5, 0, 10, 1, 1);
        due("alone", x.wrong(0), 0);
        Object[][] rows = {
            // bowl, finger, wrong
            {6, NONE, 1}, {6, 1, 2}, {6, 0, 3}, {6, 2, 0}, {5, 2, 3}, {5, 0, 3}, {5, 1, 2}, {4, 0, 0}, {4, 2, 3}, {4, 3, 3},
            {7, 2, 0}, {8, 2, 4}, {8, 3, 0}, {11, 5, 0}, {3, 0, 0}, {2, 0, 4}, {0, 5, 3}, {8, 0, 3}, {9, 1, 2}};
        for (Object[] row : rows) {
            int note = x.note((Integer) row[0], 9, 2, 1, (Integer) row[1]);
            due("wrong of " + row[0] + " by " + row[1], x.wrong(note), row[2]);
            x.drop();
            note = x.note((Integer) row[0], 10, 2, 1, (Integer) row[1]);
            due("behind it, wrong of " + row[0] + " by " + row[1], x.wrong(note), row[1].equals(NONE) ? 1 : 0);
            x.drop();
        }
        x.note(7, 3, 2, 1, NONE);
        x.note(6, 4, 2, 1, 2);
        due("one without a finger does not count", x.wrong(2), 0);
        x.note(4, 4, 2, 1, 1);
        due("the first that holds is of another note", x.wrong(3), 2);
        due("notes behind do not count", x.wrong(0), 0);
        due("none such", x.wrong(4), NONE);
        due("none such", x.wrong(-1), NONE);
        x = of(bowls(12, "") + "set fingers 1;set reach 12;");
        x.note(0, 0, 3, 1, 0);
        due("the right hand", x.wrong(x.note(11, 0, 3, 1, 1)), 0);
    }

    private static void dryFingers() {
        sentence("19, dry");
        GlassSpindle x = of(bowls(3, "") + "set dry 5;set dip 3;set soon 0;");
        x.note(0, 0, 5, 1, 0);
        due("just so long", x.wrong(0), 0);
        due("not dry in the last beat", why(x, 0, 4), 0);
        x.note(1, 5, 1, 1, 0);
        due("dry at once", x.wrong(1), 5);
        due("dry", why(x, 1, 5), 3);
        x.drop();
        x.note(1, 7, 1, 1, 0);
        due("rest of 2", x.wrong(1), 5);
        x.drop();
        x.note(1, 8, 6, 1, 0);
        due("rest of 3, but too long", x.wrong(1), 5);
        due("wet for 5 beats", why(x, 1, 12), 0);
        due("dry in the last", why(x, 1, 13), 3);
        due("speaks in 5", x.speaks(1), 5);
        x.note(1, 9, 1, 1, 1);
        due("another finger", x.wrong(2), 3);
        due("is wet", why(x, 2, 9), 0);
        x = of(bowls(3, "") + "set dry 5;set dip 3;set soon 0;");
        x.note(0, 0, 9, 1, 0);
        x.note(1, 1, 1, 1, 0);
        due("by number: all of the note before", why(x, 1, 1), 3);
        x.note(2, 5, 1, 1, 0);
        due("by number: rest since the end of the one before", why(x, 2, 5), 0);
    }

    private static void judgedAndLifts() {
        sentence("20, 21");
        GlassSpindle x = of(bowls(3, ""));
        due("judged without notes", x.judged(), NONE);
        due("lifts without notes", x.lifts(), 0);
        x.note(0, 0, 2, 1, 0);
        due("judged", x.judged(), NONE);
        due("lifts", x.lifts(), 1);
        x.note(0, 2, 2, 1, 0);
        due("goes on", x.lifts(), 1);
        x.note(1, 4, 2, 1, 0);
        due("another bowl", x.lifts(), 2);
        x.note(0, 4, 2, 1, 1);
        due("another finger", x.lifts(), 3);
        due("crosses", x.judged(), 3);
        x.note(1, 7, 2, 1, 0);
        due("a rest", x.lifts(), 4);
        x.note(1, 9, 2, 1, NONE);
        due("without a finger", x.lifts(), 5);
        x.note(1, 11, 2, 1, NONE);
        due("without a finger", x.lifts(), 6);
        x.finger(0, NONE);
        due("judged", x.judged(), 0);
    }

    private static void fewest() {
        sentence("22, 23");
        GlassSpindle x = of(bowls(4, "") + "set fingers 2;set dry 4;set dip 9;");
        x.note(0, 0, 3, 1, NONE);
        x.note(0, 3, 1, 1, NONE);
        x.note(0, 4, 2, 1, NONE);
        x.note(2, 4, 2, 1, NONE);
        // The first finger is dry behind beat 3, so a third lift is due; bowl 2 needs a higher finger.
        due("fewest", x.fewest(), 3);
        due("fingers", "" + x.fingered(0) + x.fingered(1) + x.fingered(2) + x.fingered(3), "0012");
        due("fingered(4)", x.fingered(4), NONE);
        due("fingered(-1)", x.fingered(-1), NONE);
        due("the fingers told stay", x.noteOf(0, 4), NONE);
        x.note(3, 5, 1, 1, NONE);
        due("a third at once", x.fewest(), 4);
        due("fingered(4)", x.fingered(4), 3);
        x.note(2, 5, 1, 1, NONE);
        due("not at all", x.fewest(), NONE);
        due("not at all", x.fingered(0), NONE);
        x = of(bowls(3, "") + "set fingers 1;set dry 7;set dip 5;");
        x.note(0, 0, 2, 1, NONE);
        x.note(1, 0, 2, 1, NONE);
        x.note(2, 2, 3, 1, NONE);
        x.note(2, 5, 3, 1, NONE);
        // Neither finger stays wet for both of the last ones: they change, and the least one begins.
        due("a change", x.fewest(), 4);
        due("the least begins", "" + x.fingered(0) + x.fingered(1) + x.fingered(2) + x.fingered(3), "0101");
        x = of(bowls(5, "") + "set fingers 2;set reach 2;");
        x.note(2, 0, 2, 1, NONE);
        x.note(4, 0, 2, 1, NONE);
        x.note(0, 0, 2, 1, NONE);
        due("just within reach", x.fewest(), 3);
        due("just within reach", "" + x.fingered(0) + x.fingered(1) + x.fingered(2), "120");
        x = of(bowls(5, "") + "set fingers 2;set reach 1;");
        x.note(2, 0, 2, 1, NONE);
        x.note(4, 0, 2, 1, NONE);
        x.note(0, 0, 2, 1, NONE);
        due("beyond reach", "" + x.fewest() + x.far(), "-12");
        x = of(bowls(1, ""));
        for (int i = 0; i < 8; i++) {
            x.note(0, i, 1, 1, 3);
        }
        due("eight", x.fewest(), 1);
        due("of equal ones the least fingers", x.fingered(7), 0);
        x.note(0, 8, 1, 1, 3);
        due("nine", x.fewest(), NONE);
        due("nine", x.fingered(0), NONE);
    }

    private static void far() {
        sentence("24");
        GlassSpindle x = of(bowls(4, "") + "set fingers 1;set dry 3;set dip 5;set reach 1;");
        due("no notes", x.far(), 0);
        x.note(1, 0, 2, 1, NONE);
        x.note(0, 2, 2, 1, NONE);
        due("two", x.far(), 2);
        x.note(3, 4, 1, 1, NONE);
        x.note(0, 5, 1, 1, NONE);
        due("four", x.far(), 4);
        x.note(0, 6, 1, 1, NONE);
        due("all are dry", x.far(), 4);
        x.note(0, 60, 1, 1, NONE);
        due("still four", x.far(), 4);
        due("fewest", x.fewest(), NONE);
        x.drop();
        x.drop();
        x.note(0, 60, 4, 1, NONE);
        due("too long for any finger", x.far(), 4);
        x.drop();
        x.note(0, 60, 1, 1, NONE);
        x.note(0, 60, 1, 1, NONE);
        due("twice the same bowl", x.far(), 5);
        x.note(0, 60, 1, 1, NONE);
        x.note(0, 60, 1, 1, NONE);
        due("eight notes", x.far(), 5);
        x.note(0, 60, 1, 1, NONE);
        due("nine notes", x.far(), NONE);
    }

    private static void pairs() {
        sentence("25, 26");
        GlassSpindle x = of("bowl a tone 200 size 1 wall 1;bowl b tone 301 size 1 wall 1 spare;bowl c tone 9999 size 1 wall 1;pair a 2 b 3 within 1;pair a 2 b 3 within 2;pair c 1 a 20 within 0;");
        due("beating(0)", x.beating(0), 2);
        due("beating(1)", x.beating(1), 2);
        due("beating(2)", x.beating(2), 9999 * 20 - 200);
        due("beating(3)", x.beating(3), NONE);
        due("beating(-1)", x.beating(-1), NONE);
        due("within", x.within(), 2);
        due("within of none", of(BOWL).within(), 0);
        due("within of the first", of("bowl a tone 5 size 1 wall 1;bowl b tone 5 size 1 wall 1;pair a 1 b 1 within 0;pair a 1 b 2 within 0;").within(), 1);
    }

    private static void ground() {
        sentence("27, 28");
        GlassSpindle x = of("bowl a tone 100 size 2 wall 1;bowl b tone 104 size 2 wall 1;bowl c tone 1 size 1 wall 1;pair a 1 b 1 within 1;");
        due("three steps together", x.ground(), 6);
        due("the least for the first bowl", "" + groundOf(x, 0) + " " + groundOf(x, 1) + " " + groundOf(x, 2), "0 -3 0");
        due("none such", groundOf(x, 3), THROWS);
        due("none such", groundOf(x, -1), THROWS);
        x = of("bowl a tone 100 size 2 wall 1;bowl b tone 107 size 2 wall 1;pair b 1 a 1 within 0;");
        due("not at all", x.ground(), NONE);
        due("not at all", groundOf(x, 0), THROWS);
        x = of("bowl a tone 100 size 2 wall 1;bowl b tone 107 size 2 wall 1;pair b 1 a 1 within 1;");
        due("just", x.ground(), 12);
        due("just", "" + groundOf(x, 0) + " " + groundOf(x, 1), "3 -3");
        x = of("bowl a tone 2 size 1 wall 1;bowl b tone 8 size 9 wall 1;set grind 2;pair a 4 b 20 within 7;");
        // 20 * a - 4 * b: 40 - 32 = 8; a can't go below 1, b by 2 up makes 0.
        due("the tone stays above 0", x.ground(), 9);
        due("b", groundOf(x, 1), 1);
        x = of("bowl a tone 1 size 1 wall 1;bowl b tone 1 size 9 wall 1;pair a 1 b 3 within 1;");
        due("no tone of 0", "" + x.ground() + groundOf(x, 0) + groundOf(x, 1), "901");
        x = of("bowl a tone 6667 size 9 wall 1;bowl b tone 9999 size 1 wall 1;pair a 2 b 3 within 2;");
        due("no tone of 10000", "" + x.ground() + groundOf(x, 0) + groundOf(x, 1), "9-10");
        x = of("bowl a tone 9998 size 1 wall 1;bowl b tone 9999 size 2 wall 1;pair a 1 b 1 within 0;");
        due("up to 9999", x.ground(), 1);
        x = of("bowl a tone 2 size 1 wall 1;bowl b tone 1 size 2 wall 1;pair a 1 b 1 within 0;");
        due("down to 1", "" + x.ground() + groundOf(x, 0) + groundOf(x, 1), "1-10");
        x = of("bowl a tone 2 size 1 wall 1;bowl b tone 1 size 9 wall 1;set grind 2;pair a 1 b 2 within 0;");
        // The tones of a are even, and twice that is even: those of b are odd.
        due("steps of 2 do not meet", x.ground(), NONE);
        x = of("bowl a tone 9999 size 1 wall 1;bowl b tone 9998 size 1 wall 1;pair a 1 b 1 within 0;");
        due("the least from -3 up", "" + groundOf(x, 0) + " " + groundOf(x, 1), "-1 0");
        String nine = bowls(12, "");
        String four = "pair a 1 b 1 within 9;pair c 1 d 1 within 9;pair e 1 f 1 within 9;pair g 1 h 1 within 0;";
        x = of(nine + four);
        due("eight such", x.ground(), 2);
        due("eight such", groundOf(x, 6), 0);
        due("eight such", groundOf(x, 7), -1);
        x = of(nine + four + "pair a 1 i 1 within 9999;");
        due("nine such", x.ground(), NONE);
        due("nine such", groundOf(x, 11), THROWS);
        x = of(bowls(5, "") + "pair a 1 b 1 within 0;pair b 1 c 1 within 0;pair c 1 d 1 within 0;pair d 1 a 1 within 0;pair e 1 a 1 within 0;pair e 1 b 1 within 0;pair e 1 c 1 within 0;pair d 1 e 1 within 0;");
        due("a wheel", x.ground(), 2 * 6);
        due("all as the middle one", "" + groundOf(x, 0) + groundOf(x, 1) + groundOf(x, 2) + groundOf(x, 3) + groundOf(x, 4), "210-1-2");
        due("nothing changes", x.bowl(0, 0), 100);
    }

    private static void spareAndExchange() {
        sentence("29, 30");
        GlassSpindle x = of("bowl a tone 100 size 1 wall 1 gilt;bowl b tone 110 size 1 wall 1 spare;bowl c tone 90 size 1 wall 1 spare;bowl d tone 95 size 1 wall 1;");
        due("of equal ones the first", x.spare(0), 1);
        due("the nearest", x.spare(3), 2);
        due("of a spare", x.spare(1), NONE);
        due("none such", x.spare(4), NONE);
        due("none such", x.spare(-1), NONE);
        due("none there", of(BOWL).spare(0), NONE);
        x.note(0, 0, 1, 1, 0);
        x.note(3, 1, 1, 1, 1);
        due("by a bowl with a place", x.exchange(0, 3), false);
        due("of a spare", x.exchange(1, 2), false);
        due("itself", x.exchange(0, 0), false);
        due("none such", x.exchange(4, 1) || x.exchange(0, 4) || x.exchange(-1, 1) || x.exchange(0, -1), false);
        due("exchange", x.exchange(0, 2), true);
        due("kinds", "" + x.bowl(0, 3) + x.bowl(1, 3) + x.bowl(2, 3) + x.bowl(3, 3), "3300");
        due("places", "" + x.bowl(0, 4) + x.bowl(1, 4) + x.bowl(2, 4) + x.bowl(3, 4), "-1-101");
        due("notes", "" + x.noteOf(0, 0) + x.noteOf(1, 0), "23");
        due("with places", x.count(1), 2);
        due("no note of the other one", x.note(0, 2, 1, 1, 0), NONE);
        due("back", x.exchange(2, 0), true);
        due("it has forgotten its kind", x.bowl(0, 3), 0);
        due("and so has the spare", x.bowl(2, 3), 3);
        due("notes", x.noteOf(0, 0), 0);
    }

    private static void movedAndOrder() {
        sentence("31, 32, 33");
        GlassSpindle x = of("bowl s tone 1 size 1 wall 1 spare;" + bowls(5, ""));
        int[] played = {1, 5, 1, 5, 3, 2};
        for (int i = 0; i < played.length; i++) {
            x.note(played[i], i, 1, 1, NONE);
        }
        due("moved", x.moved(), 4 + 4 + 4 + 2 + 1);
        // 1 and 5 side by side, then 3, then 2; of equal ones the order with the least bowl first.
        due("order", x.order(), 3 + 1 + 1);
        due("ordered", "" + x.ordered(0) + x.ordered(1) + x.ordered(2) + x.ordered(3) + x.ordered(4), "15324");
        due("ordered(5)", x.ordered(5), NONE);
        due("ordered(-1)", x.ordered(-1), NONE);
        due("nothing is moved", x.moved(), 15);
        due("nothing is moved", x.bowl(5, 4), 4);
        x = of(bowls(3, ""));
        due("moved without notes", x.moved(), 0);
        due("order without notes", x.order(), 0);
        due("ordered without notes", "" + x.ordered(0) + x.ordered(1) + x.ordered(2), "012");
        x.note(2, 0, 1, 1, NONE);
        x.note(0, 0, 1, 1, NONE);
        due("of equal ones", "" + x.order() + x.ordered(0) + x.ordered(1) + x.ordered(2), "1021");
        x = of(bowls(8, "") + "bowl s tone 1 size 1 wall 1 spare;");
        due("eight with places", x.order(), 0);
        due("the last", x.ordered(7), 7);
        x = of(bowls(9, ""));
        due("nine", x.order(), NONE);
        due("nine", x.ordered(0), NONE);
    }

    private static void marks() {
        sentence("34");
        GlassSpindle x = of(BOWL + "bowl b tone 9 size 1 wall 1 spare;set warm 7;speak 1;pair a 1 b 1 within 0;set soon 0;");
        due("nothing on it", x.mark(3, true), false);
        due("none such", x.mark(4, false) || x.mark(-1, false) || x.mark(4, true) || x.mark(-1, true), false);
        x.note(0, 0, 2, 1, 3);
        due("lay", x.mark(3, false), true);
        x.exchange(0, 1);
        x.finger(0, 2);
        x.drop();
        feed(x, "speak 0;set fingers 1;");
        due("spindle", x.spindle(), 0);
        feed(x, "bowl");
        due("back", x.mark(3, true), true);
        due("the tape stays", x.count(16), 4);
        due("bowls", x.count(0), 2);
        due("places", x.bowl(0, 4), 0);
        due("settings", x.count(11), 7);
        due("notes", x.count(4), 1);
        due("fingers", x.noteOf(0, 4), 3);
        due("warmth", x.warmth(0, 1), 7);
        due("the laws", why(x, 0, 0), 0);
        due("beating", x.beating(0), 8);
        x.drop();
        due("back again", x.mark(3, true) && x.count(4) == 1, true);
        x.drop();
        due("lay anew", x.mark(3, false), true);
        due("back", x.mark(3, true) && x.count(4) == 0, true);
        due("others are free", x.mark(0, true), false);
        due("the first one, too", x.mark(0, false) && x.mark(0, true), true);
    }

    private static void counts() {
        sentence("35");
        GlassSpindle x = of(BOWL + "bowl b tone 9 size 1 wall 1 spare;pair a 1 b 1 within 0;speak 1;speak 1;speak 1;set treadle 21;set fingers 3;set reach 5;set soon 6;set dry 7;set dip 8;set warm 9;set cool 10;set crack 11;set along 12;set grind 13;");
        x.note(0, 0, 1, 1, 0);
        x.note(0, 0, 1, 1, 0);
        x.note(0, 0, 1, 1, 0);
        x.note(0, 0, 1, 1, 0);
        feed(x, "abcdef");
        int[] counts = {2, 1, 1, 3, 4, 21, 3, 5, 6, 7, 8, 9, 10, 11, 12, 13, 6, NONE};
        for (int i = 0; i < counts.length; i++) {
            due("count(" + i + ")", x.count(i), counts[i]);
        }
        due("count(-1)", x.count(-1), NONE);
        due("count(max)", x.count(Integer.MAX_VALUE), NONE);
    }
}
