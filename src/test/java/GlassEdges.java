/** Section 4 of the document and what is left of the promises, sentence by sentence: the last that each takes and the first that it refuses. */
public final class GlassEdges extends Asking {
    private GlassEdges() { }

    public static void main(String[] args) {
        newObject();
        bowlFacts();
        beating();
        beatingWhere();
        within();
        groundSteps();
        groundTones();
        groundGlass();
        groundOfEqual();
        groundAtMost();
        groundNet();
        groundAgain();
        groundOf();
        spareNearest();
        spareWhere();
        exchange();
        exchangeWhere();
        moved();
        order();
        orderOfEqual();
        orderAtMost();
        ordered();
        marks();
        marksHold();
        counts();
        end("edges of glass");
    }

    /** BOWLS of these tones, all of one size. */
    private static String tones(int size, int... tones) {
        StringBuilder s = new StringBuilder();
        for (int i = 0; i < tones.length; i++) {
            s.append("bowl ").append((char) ('a' + i)).append(" tone ").append(tones[i]).append(" size ").append(size).append(" wall 1;");
        }
        return s.toString();
    }

    /** LEAST glass, and by how much each of the first BOWLS is ground. */
    private static String ground(String text, int bowls) {
        GlassSpindle x = of(text);
        StringBuilder s = new StringBuilder().append(x.ground());
        for (int i = 0; i < bowls; i++) {
            s.append(" ").append(groundOf(x, i));
        }
        return s.toString();
    }

    private static void newObject() {
        sentence("No BOWL; all as without a line");
        GlassSpindle x = new GlassSpindle();
        int[] counts = {0, 0, 0, 0, 0, 10, 2, 4, 1, 12, 2, 3, 1, 5, 0, 1, 0};
        for (int i = 0; i < counts.length; i++) {
            due("count(" + i + ")", x.count(i), counts[i]);
        }
        due("of bowls", "" + x.bowl(0, 0) + x.touched(0, 0) + x.warmth(0, 0) + x.cracked(0) + x.spare(0) + x.exchange(0, 0), "-1-1-1-1-1false");
        due("of notes", "" + x.note(0, 0, 1, 1, 0) + x.drop() + x.finger(0, 0) + x.noteOf(0, 0) + x.speaks(0) + x.wrong(0) + x.fingered(0) + why(x, 0, 0), "-1falsefalse-1-1-1-1throws");
        due("of beats", "" + x.sounds(0) + x.along(0) + x.silence(0, 0) + x.best(0) + x.best(1) + x.atTreadle(1), "00-1100");
        due("of hands", "" + x.judged() + x.lifts() + x.fewest() + x.far() + x.moved() + x.order() + x.ordered(0), "-100000-1");
        due("of pairs", "" + x.beating(0) + x.within() + x.ground() + groundOf(x, 0), "-100throws");
        due("of marks", "" + x.mark(0, true) + x.mark(3, true), "falsefalse");
        due("each object on its own", of(BOWL).count(0) + new GlassSpindle().count(0), 1);
    }

    private static void bowlFacts() {
        sentence("Of a BOWL, what 0: tone, 1: size, 2: wall, 3: .., 4: its PLACE (NONE: a spare); NONE: others");
        GlassSpindle x = of("bowl a tone 9999 size 99 wall 20 rimmed;bowl b tone 1 size 2 wall 3 spare;");
        due("the first one", x.bowl(0, 0) + " " + x.bowl(0, 1) + " " + x.bowl(0, 2) + " " + x.bowl(0, 3) + " " + x.bowl(0, 4), "9999 99 20 1 0");
        due("a spare", x.bowl(1, 0) + " " + x.bowl(1, 1) + " " + x.bowl(1, 2) + " " + x.bowl(1, 3) + " " + x.bowl(1, 4), "1 2 3 3 -1");
        for (int bowl : new int[] {LOWEST, -1, 2, 12, HIGHEST}) {
            due("bowl " + bowl, "" + x.bowl(bowl, 0) + x.bowl(bowl, 4), "-1-1");
        }
        for (int what : new int[] {LOWEST, -1, 5, HIGHEST}) {
            due("what " + what, x.bowl(0, what), NONE);
        }
    }

    private static void beating() {
        sentence("A pair of BOWLS a, b with numbers p, q BEATS so fast: tone of a * q and tone of b * p are so far apart");
        String two = "bowl a tone 1 size 1 wall 1;bowl b tone 9999 size 1 wall 1;";
        GlassSpindle x = of(two + "pair a 1 b 1 within 0;pair b 1 a 1 within 0;pair a 20 b 1 within 0;pair b 20 a 1 within 0;pair a 1 b 20 within 0;pair b 1 a 20 within 0;");
        due("alike either way", x.beating(0) + " " + x.beating(1), "9998 9998");
        due("crosswise", x.beating(2) + " " + x.beating(3) + " " + x.beating(4) + " " + x.beating(5), "199979 9979 9979 199979");
        x = of(tones(1, 200, 300) + "pair a 2 b 3 within 0;");
        due("a fifth does not beat", x.beating(0), 0);
    }

    private static void beatingWhere() {
        sentence("How fast a pair beats; NONE: none such");
        GlassSpindle x = of(tones(1, 5, 7) + "pair a 1 b 1 within 0;pair b 1 a 2 within 0;");
        due("both", "" + x.beating(0) + x.beating(1), "29");
        for (int pair : new int[] {LOWEST, -1, 2, 8, HIGHEST}) {
            due("pair " + pair, x.beating(pair), NONE);
        }
        due("no pairs", of(BOWL).beating(0), NONE);
    }

    private static void within() {
        sentence("Pairs that beat no faster than their within, as bits");
        StringBuilder text = new StringBuilder(tones(1, 100, 104));
        for (int i = 1; i <= 8; i++) {
            text.append("pair a 1 b 1 within ").append(i).append(";");
        }
        due("4 is no faster than 4", of(text.toString()).within(), 0xf8);
        due("9999", of(tones(1, 500, 9999) + "pair a 1 b 20 within 9999;pair a 1 b 20 within 0;pair a 20 b 1 within 9999;").within(), 1);
        due("no pairs", of(BOWL).within(), 0);
        due("within 0", of(tones(1, 7, 7, 8) + "pair a 1 c 1 within 0;pair a 1 b 1 within 0;").within(), 2);
    }

    private static void groundSteps() {
        sentence("GROUND: each BOWL of some pair by -3 to 3, which changes its tone by that times grind");
        due("6 apart: 3 and -3", ground(tones(1, 100, 106) + "pair a 1 b 1 within 0;", 2), "6 3 -3");
        due("7 apart: not at all", ground(tones(1, 100, 107) + "pair a 1 b 1 within 0;", 2), "-1 throws throws");
        due("7 apart, within 1", ground(tones(1, 100, 107) + "pair a 1 b 1 within 1;", 2), "6 3 -3");
        due("the other way", ground(tones(1, 106, 100) + "pair a 1 b 1 within 0;", 2), "6 -3 3");
        due("times 99", ground(tones(1, 1000, 1594) + "set grind 99;pair a 1 b 1 within 0;", 2), "6 3 -3");
        due("one more", ground(tones(1, 1000, 1595) + "set grind 99;pair a 1 b 1 within 0;", 2), "-1 throws throws");
        due("grind 2 and an odd distance", ground(tones(1, 100, 103) + "set grind 2;pair a 1 b 1 within 0;", 2), "-1 throws throws");
        due("grind 2 and an odd distance, within 1", ground(tones(1, 100, 103) + "set grind 2;pair a 1 b 1 within 1;", 2), "1 0 -1");
    }

    private static void groundTones() {
        sentence("(it must stay 1 to 9999)");
        due("down to 1", ground("bowl a tone 4 size 1 wall 1;bowl b tone 1 size 99 wall 1;pair a 1 b 1 within 0;", 2), "3 -3 0");
        // Of a * 3 and b * 1, 2 apart and within 1, a tone of 0 would cost least.
        due("not to 0", ground("bowl a tone 1 size 1 wall 1;bowl b tone 1 size 99 wall 1;pair a 1 b 3 within 1;", 2), "99 0 1");
        due("0 would be best: a * 1 and b * 2", ground("bowl a tone 1 size 1 wall 1;bowl b tone 1 size 99 wall 1;pair a 2 b 1 within 0;", 2), "1 1 0");
        due("up to 9999", ground("bowl a tone 9996 size 1 wall 1;bowl b tone 9999 size 99 wall 1;pair a 1 b 1 within 0;", 2), "3 3 0");
        // Of a * 3 and b * 2, 3 apart and within 2, a tone of 10000 would cost least.
        due("not to 10000", ground("bowl a tone 6667 size 99 wall 1;bowl b tone 9999 size 1 wall 1;pair a 2 b 3 within 2;", 2), "99 -1 0");
        due("no way down by 99", ground("bowl a tone 99 size 99 wall 1;bowl b tone 198 size 1 wall 1;set grind 99;pair a 1 b 1 within 0;", 2), "1 0 -1");
        due("no way down by 99, but up", ground("bowl a tone 99 size 1 wall 1;bowl b tone 99 size 9 wall 1;set grind 99;pair a 1 b 2 within 0;", 2), "9 0 1");
    }

    private static void groundGlass() {
        sentence("and costs glass: that (not below 0) times its size");
        due("down costs, too", ground("bowl a tone 100 size 99 wall 1;bowl b tone 103 size 7 wall 1;pair a 1 b 1 within 0;", 2), "21 0 -3");
        due("up", ground("bowl a tone 103 size 99 wall 1;bowl b tone 100 size 7 wall 1;pair a 1 b 1 within 0;", 2), "21 0 3");
        due("together", ground("bowl a tone 100 size 99 wall 1;bowl b tone 106 size 7 wall 1;pair a 1 b 1 within 0;", 2), "318 3 -3");
        due("nothing to do", ground(tones(99, 5, 5) + "pair a 1 b 1 within 0;", 2), "0 0 0");
        due("no pairs", ground(tones(99, 5, 6), 2), "0 0 0");
        due("the most there is", ground(tones(99, 100, 106, 100, 106, 100, 106, 100, 106) + "pair a 1 b 1 within 0;pair c 1 d 1 within 0;pair e 1 f 1 within 0;pair g 1 h 1 within 0;", 8), "2376 3 -3 3 -3 3 -3 3 -3");
    }

    private static void groundOfEqual() {
        sentence("of equal ones the least (from -3 up) for the first BOWL, then the second, and so on");
        due("2 apart: 0 -2, 1 -1 or 2 0", ground(tones(1, 100, 102) + "pair a 1 b 1 within 0;", 2), "2 0 -2");
        due("-2 0 is less", ground(tones(1, 102, 100) + "pair a 1 b 1 within 0;", 2), "2 -2 0");
        due("the first bowl told, not the pair's first", ground(tones(1, 100, 102) + "pair b 1 a 1 within 0;", 2), "2 0 -2");
        due("5 apart: 2 -3 or 3 -2", ground(tones(1, 100, 105) + "pair a 1 b 1 within 0;", 2), "5 2 -3");
        due("three in a row", ground(tones(1, 100, 101, 102) + "pair a 1 b 1 within 0;pair b 1 c 1 within 0;", 3), "2 1 0 -1");
        due("a third one", ground(tones(1, 50, 100, 101) + "pair b 1 c 1 within 0;", 3), "1 0 0 -1");
        due("fewer glass comes first", ground("bowl a tone 100 size 2 wall 1;bowl b tone 102 size 1 wall 1;bowl c tone 100 size 1 wall 1;pair a 1 b 1 within 0;pair b 1 c 1 within 9;", 3), "2 0 -2 0");
    }

    private static void groundAtMost() {
        sentence("With 8 such BOWLS at most; NONE: more than 8 such BOWLS");
        String four = "pair a 1 b 1 within 0;pair c 1 d 1 within 0;pair e 1 f 1 within 0;pair g 1 h 1 within 0;";
        due("8 of 12", ground(bowls(12, "") + four, 9), "8 0 -1 0 -1 0 -1 0 -1 0");
        due("9 of 12", ground(bowls(12, "") + four + "pair i 1 a 1 within 9999;", 1), "-1 throws");
        due("the last 8", ground(bowls(12, "") + "pair e 1 f 1 within 9;pair g 1 h 1 within 9;pair i 1 j 1 within 9;pair k 1 l 1 within 0;", 12), "2 0 0 0 0 0 0 0 0 0 0 0 -1");
        due("12 of 12", ground(bowls(12, "") + "pair a 1 b 1 within 0;pair c 1 d 1 within 0;pair e 1 f 1 within 0;pair g 1 h 1 within 0;pair i 1 j 1 within 0;pair k 1 l 1 within 0;", 1), "-1 throws");
        due("8 in a ring", ground(tones(1, 5, 5, 5, 5, 5, 5, 5, 6) + "pair a 1 b 1 within 0;pair b 1 c 1 within 0;pair c 1 d 1 within 0;pair d 1 e 1 within 0;pair e 1 f 1 within 0;pair f 1 g 1 within 0;pair g 1 h 1 within 0;pair h 1 a 1 within 0;", 8), "1 0 0 0 0 0 0 0 -1");
        due("8 spares", ground(bowls(8, " spare") + four, 2), "8 0 -1");
    }

    private static String allToAll() {
        return tones(1, 100, 101, 102, 103) + "pair a 1 b 1 within 0;pair a 1 c 1 within 0;pair a 1 d 1 within 0;pair b 1 c 1 within 0;pair b 1 d 1 within 0;pair c 1 d 1 within 0;";
    }

    private static String wheel() {
        return tones(1, 100, 101, 102, 103, 104) + "pair a 1 b 1 within 0;pair b 1 c 1 within 0;pair c 1 d 1 within 0;pair d 1 a 1 within 0;pair e 1 a 1 within 0;pair e 1 b 1 within 0;pair e 1 c 1 within 0;pair e 1 d 1 within 0;";
    }

    private static String star() {
        return tones(1, 100, 101, 102, 103, 99, 98, 97, 100) + "pair a 1 b 1 within 0;pair a 1 c 1 within 0;pair a 1 d 1 within 0;pair a 1 e 1 within 0;pair a 1 f 1 within 0;pair a 1 g 1 within 0;pair a 1 h 1 within 0;";
    }

    /** Each net behind each other one and behind itself, on one object. */
    private static void groundAgain() {
        sentence("LEAST: of the SPINDLE as it is, whatever was ground before");
        String[] texts = {wheel(), star(), allToAll(), tones(1, 100, 107) + "pair a 1 b 1 within 0;", tones(1, 5, 6), bowls(9, "") + "pair a 1 b 1 within 9;pair c 1 d 1 within 9;pair e 1 f 1 within 9;pair g 1 h 1 within 9;pair i 1 a 1 within 9;"};
        int[] glass = {6, 12, 4, NONE, 0, NONE};
        Object[] second = {1, -1, 0, THROWS, 0, THROWS};
        GlassSpindle x = new GlassSpindle();
        for (int one = 0; one < texts.length; one++) {
            for (int other = 0; other < texts.length; other++) {
                for (int which : new int[] {one, other, other}) {
                    read(x, texts[which]);
                    due("glass of text " + which, x.ground(), glass[which]);
                    due("bowl 1 of text " + which, groundOf(x, 1), second[which]);
                }
            }
        }
    }

    private static void groundNet() {
        sentence("LEAST: the least glass by which each pair beats no faster than its within");
        due("all to all of four", ground(allToAll(), 4), "4 1 0 -1 -2");
        due("a wheel of five", ground(wheel(), 5), "6 2 1 0 -1 -2");
        due("a star of eight", ground(star(), 8), "12 0 -1 -2 -3 1 2 3 0");
        due("one pair can't be mended", ground(tones(1, 100, 101, 500) + "pair a 1 b 1 within 0;pair a 1 c 1 within 0;", 2), "-1 throws throws");
        due("a pair told twice: the narrower one counts", ground(tones(1, 100, 104) + "pair a 1 b 1 within 4;pair b 1 a 1 within 1;", 2), "3 0 -3");
    }

    private static void groundOf() {
        sentence("By how much a BOWL is GROUND then (0: it is in no pair). NoSuchElementException: none such, as of ground()");
        GlassSpindle x = of(tones(1, 100, 101, 7) + "pair a 1 b 1 within 0;");
        due("in a pair, in none", "" + groundOf(x, 0) + groundOf(x, 1) + groundOf(x, 2), "0-10");
        for (int bowl : new int[] {LOWEST, -1, 3, 12, HIGHEST}) {
            due("bowl " + bowl, groundOf(x, bowl), THROWS);
        }
        x = of(tones(1, 100, 107, 7) + "pair a 1 b 1 within 0;");
        due("not at all", "" + groundOf(x, 0) + groundOf(x, 1) + groundOf(x, 2), "throwsthrowsthrows");
        due("tones stay", "" + x.bowl(0, 0) + x.bowl(1, 0) + x.beating(0), "1001077");
        due("without pairs", groundOf(of(BOWL), 0), 0);
    }

    private static void spareNearest() {
        sentence("SPARE for a BOWL with a PLACE: the spare of the nearest tone, of equal ones the first");
        String spares = "bowl s tone 90 size 1 wall 1 spare;bowl t tone 110 size 1 wall 1 spare;bowl u tone 111 size 1 wall 1 spare;";
        for (int tone : new int[] {1, 90, 99, 100}) {
            due("tone " + tone, of(spares + tones(1, tone)).spare(3), 0);
        }
        for (int tone : new int[] {101, 110}) {
            due("tone " + tone, of(spares + tones(1, tone)).spare(3), 1);
        }
        for (int tone : new int[] {111, 112, 9999}) {
            due("tone " + tone, of(spares + tones(1, tone)).spare(3), 2);
        }
        due("alike", of("bowl s tone 5 size 1 wall 1 spare;bowl t tone 5 size 1 wall 1 spare;" + tones(1, 9999)).spare(2), 0);
        due("behind it", of(tones(1, 9999) + "bowl s tone 1 size 1 wall 1 spare;").spare(0), 1);
    }

    private static void spareWhere() {
        sentence("SPARE; NONE: others, there is none");
        GlassSpindle x = of(BOWL + "bowl s tone 5 size 1 wall 1 spare;");
        due("there is one", x.spare(0), 1);
        for (int bowl : new int[] {LOWEST, -1, 1, 2, HIGHEST}) {
            due("bowl " + bowl, x.spare(bowl), NONE);
        }
        due("none", of(bowls(12, "")).spare(11), NONE);
    }

    private static void exchange() {
        sentence("EXCHANGE: a spare comes to the PLACE of another BOWL, which is a spare then; it is plain from then on, the other one forgets its kind, too; NOTES of the other one become NOTES of it");
        for (String kind : new String[] {"", " rimmed", " gilt"}) {
            GlassSpindle x = of(bowls(2, kind) + "bowl s tone 7 size 8 wall 9 spare;pair a 1 s 1 within 0;");
            x.note(0, 0, 2, 2, 0);
            x.note(1, 1, 2, 2, 1);
            x.note(0, 3, 2, 2, 0);
            due("exchange", x.exchange(0, 2), true);
            due("places", "" + x.bowl(0, 4) + x.bowl(1, 4) + x.bowl(2, 4), "-110");
            due("kinds", "" + x.bowl(0, 3) + x.bowl(2, 3), "30");
            due("else it is as it was", x.bowl(2, 0) + " " + x.bowl(2, 1) + " " + x.bowl(2, 2) + " " + x.bowl(0, 0), "7 8 9 100");
            due("notes", "" + x.noteOf(0, 0) + x.noteOf(1, 0) + x.noteOf(2, 0), "212");
            due("touched", "" + x.touched(0, 0) + x.touched(2, 0) + x.warmth(0, 2) + " " + x.warmth(2, 2), "020 12");
            due("pairs stay", x.beating(0), 93);
            due("counts", "" + x.count(0) + x.count(1) + x.count(4), "323");
            due("back", x.exchange(2, 0), true);
            due("its kind is forgotten", "" + x.bowl(0, 3) + x.bowl(2, 3) + x.bowl(0, 4), "030");
            due("notes", "" + x.noteOf(0, 0) + x.noteOf(2, 0), "00");
        }
        GlassSpindle x = of(bowls(12, " spare").replaceFirst(" spare", ""));
        due("the first by the last one", x.exchange(0, 11) && x.bowl(11, 4) == 0, true);
    }

    private static void exchangeWhere() {
        sentence("EXCHANGE of a BOWL with a PLACE by a spare: true; false: others");
        GlassSpindle x = of(bowls(2, "") + "bowl s tone 7 size 8 wall 9 spare;bowl t tone 7 size 8 wall 9 spare;");
        x.note(0, 0, 1, 1, NONE);
        for (int other : new int[] {LOWEST, -1, 4, 12, HIGHEST}) {
            due("bowl " + other, x.exchange(other, 2) || x.exchange(0, other), false);
        }
        due("a spare by a spare", x.exchange(2, 3) || x.exchange(2, 2), false);
        due("a bowl by a bowl", x.exchange(0, 1) || x.exchange(0, 0), false);
        due("a spare by a bowl", x.exchange(2, 0), false);
        due("nothing changes", "" + x.bowl(0, 4) + x.bowl(1, 4) + x.bowl(2, 4) + x.bowl(3, 4) + x.noteOf(0, 0), "01-1-10");
        due("the last spare", x.exchange(1, 3), true);
        due("not twice", x.exchange(1, 3), false);
    }

    private static void moved() {
        sentence("how far hands move, from each NOTE to the next one by PLACES, together");
        GlassSpindle x = of("bowl s tone 1 size 1 wall 1 spare;" + bowls(11, ""));
        due("no notes", x.moved(), 0);
        x.note(11, 0, 1, 1, NONE);
        due("one", x.moved(), 0);
        x.note(1, 0, 1, 1, NONE);
        due("from the last to the first", x.moved(), 10);
        x.note(1, 0, 1, 1, NONE);
        due("to the same", x.moved(), 10);
        x.note(3, 0, 1, 1, NONE);
        due("and up", x.moved(), 12);
        x.exchange(1, 0);
        due("a spare in its place", x.moved(), 12);
        x.drop();
        due("down to three", x.moved(), 10);
        x = of(bowls(12, ""));
        for (int i = 0; i < 24; i++) {
            x.note(i % 2 * 11, i, 1, 1, NONE);
        }
        due("the most there is", x.moved(), 23 * 11);
    }

    private static String order(GlassSpindle x, int places) {
        StringBuilder s = new StringBuilder().append(x.order()).append(":");
        for (int i = 0; i < places; i++) {
            s.append(" ").append(x.ordered(i));
        }
        return s.toString();
    }

    private static GlassSpindle played(String text, int... bowls) {
        GlassSpindle x = of(text);
        for (int i = 0; i < bowls.length; i++) {
            x.note(bowls[i], i, 1, 1, NONE);
        }
        return x;
    }

    private static void order() {
        sentence("ORDER of BOWLS with PLACES: how far hands move: the least");
        due("no notes", order(of(bowls(4, "")), 4), "0: 0 1 2 3");
        due("one note", order(played(bowls(4, ""), 3), 4), "0: 0 1 2 3");
        due("far ones side by side", order(played(bowls(4, ""), 0, 3, 0, 3), 4), "3: 0 3 1 2");
        due("a ring", order(played(bowls(4, ""), 0, 2, 1, 3, 0), 4), "6: 0 2 1 3");
        due("a star", order(played(bowls(5, ""), 4, 0, 4, 1, 4, 2, 4, 3, 4), 5), "12: 0 1 4 2 3");
        GlassSpindle x = played("bowl s tone 1 size 1 wall 1 spare;" + bowls(3, ""), 1, 3, 1, 3);
        due("spares have no place", order(x, 4), "3: 1 3 2 -1");
        x.exchange(3, 0);
        due("one that has come to a place", order(x, 4), "3: 0 1 2 -1");
        due("nothing is moved", x.moved(), 6);
        due("spares alone", order(of(bowls(12, " spare")), 1), "0: -1");
        due("one bowl", order(played(BOWL, 0, 0, 0), 2), "0: 0 -1");
    }

    private static void orderOfEqual() {
        sentence("of equal ones the first BOWL from PLACE 0 on is the least");
        due("from the least end", order(played(bowls(3, ""), 2, 0), 3), "1: 0 2 1");
        due("the pair in front or behind", order(played(bowls(3, ""), 1, 2), 3), "1: 0 1 2");
        due("either way round", order(played(bowls(3, ""), 0, 2, 1), 3), "2: 0 2 1");
        due("the middle one is told first", order(played(bowls(3, ""), 1, 0, 2), 3), "2: 1 0 2");
        due("all bowls in any order", order(of(bowls(8, "")), 8), "0: 0 1 2 3 4 5 6 7");
        due("after an exchange numbers count, not old places", order2(), "0: 1 2 3");
    }

    private static String order2() {
        GlassSpindle x = of(bowls(3, "") + "bowl s tone 1 size 1 wall 1 spare;");
        x.exchange(0, 3);
        return order(x, 3);
    }

    private static void orderAtMost() {
        sentence("ORDER (8 at most); NONE: more than 8 BOWLS");
        GlassSpindle x = played(bowls(8, ""), 0, 7, 0, 7, 6);
        due("8", order(x, 8), "4: 0 7 6 1 2 3 4 5");
        due("9", order(played(bowls(9, ""), 0, 8), 9), "-1: -1 -1 -1 -1 -1 -1 -1 -1 -1");
        due("12", order(of(bowls(12, "")), 1), "-1: -1");
        due("8 with places, and a spare", order(played(bowls(8, "") + "bowl s tone 1 size 1 wall 1 spare;", 7, 0), 9), "1: 0 7 1 2 3 4 5 6 -1");
    }

    private static void ordered() {
        sentence("The BOWL at a PLACE then; NONE: others, likewise");
        GlassSpindle x = of(bowls(8, ""));
        due("the first and the last one", "" + x.ordered(0) + x.ordered(7), "07");
        for (int place : new int[] {LOWEST, -1, 8, 12, HIGHEST}) {
            due("place " + place, x.ordered(place), NONE);
        }
        x = of(bowls(3, "") + "bowl s tone 1 size 1 wall 1 spare;");
        due("behind three", "" + x.ordered(2) + x.ordered(3), "2-1");
        due("no bowls", new GlassSpindle().ordered(0), NONE);
    }

    private static void marks() {
        sentence("MARKS 0 to 3: A MARK is laid (back: gone back to): true; false: none such, nothing is on it (back)");
        GlassSpindle x = of(BOWL);
        for (int mark : new int[] {LOWEST, -1, 4, 5, HIGHEST}) {
            due("mark " + mark, x.mark(mark, false) || x.mark(mark, true), false);
        }
        for (int mark = 0; mark < 4; mark++) {
            due("nothing is on " + mark, x.mark(mark, true), false);
            due("none is gone", x.count(4), mark);
            due("laid", x.mark(mark, false), true);
            x.note(0, mark, 1, 1, NONE);
        }
        for (int mark = 3; mark >= 0; mark--) {
            due("back to " + mark, x.mark(mark, true) && x.count(4) == mark, true);
        }
        for (int mark = 0; mark < 4; mark++) {
            due("again to " + mark, x.mark(mark, true) && x.count(4) == mark, true);
        }
        due("laid over", x.mark(1, false) && x.mark(0, true) && x.count(4) == 0 && x.mark(1, true) && x.count(4) == 3, true);
        x = new GlassSpindle();
        due("of a new object", x.mark(3, false) && x.mark(3, true), true);
        x = of(BOWL);
        due("each object has its own", x.mark(3, true), false);
    }

    private static void marksHold() {
        sentence("MARKS 0 to 3 hold the SPINDLE and NOTES as they are");
        String text = "bowl a tone 10 size 2 wall 3 gilt;bowl b tone 14 size 5 wall 6 rimmed;bowl c tone 17 size 8 wall 9 spare;pair a 2 b 3 within 30;pair c 1 b 1 within 1;"
            + "speak speed<900;speak touch<3 and press<9;set treadle 7;set fingers 3;set reach 2;set soon 1;set dry 3;set dip 4;set warm 5;set cool 2;set crack 7;set along 4;set grind 2;";
        GlassSpindle x = of(text);
        x.note(0, 1, 4, 3, 1);
        x.note(1, 3, 6, 2, 4);
        String before = all(x);
        x.mark(1, false);
        due("laying changes nothing", all(x), before);
        x.exchange(1, 2);
        x.finger(0, 5);
        x.note(0, 9, 1, 1, 0);
        due("what comes later changes it", all(x).equals(before), false);
        due("back", x.mark(1, true), true);
        due("all is as it was", all(x), before);
        read(x, bowls(12, " gilt") + "pair a 1 b 1 within 0;".repeat(8) + "speak 0;".repeat(4) + "set dry 99;");
        for (int i = 0; i < 24; i++) {
            x.note(11 - i % 12, i, 1, 9, 3);
        }
        feed(x, "set");
        due("back from another one", x.mark(1, true), true);
        due("all is as it was", all(x), before);
        due("the tape stays", x.count(16), 3);
        x.drop();
        due("a mark does not follow", x.mark(1, true) && all(x).equals(before), true);
    }

    /** Every answer there is about the SPINDLE and NOTES. */
    private static String all(GlassSpindle x) {
        StringBuilder s = new StringBuilder();
        for (int i = 0; i < 16; i++) {
            s.append(x.count(i)).append(' ');
        }
        for (int i = 0; i < 4; i++) {
            for (int what = 0; what < 5; what++) {
                s.append(x.bowl(i, what)).append(' ').append(x.noteOf(i, what)).append(' ');
            }
            s.append(x.cracked(i)).append(' ').append(x.speaks(i)).append(' ').append(x.wrong(i)).append(' ').append(x.beating(i)).append(' ').append(groundOf(x, i)).append(' ').append(x.spare(i)).append(' ');
            for (int beat = 0; beat < 12; beat++) {
                s.append(x.touched(i, beat)).append(' ').append(x.warmth(i, beat)).append(' ').append(why(x, i, beat)).append(' ');
            }
        }
        for (int beat = 0; beat < 12; beat++) {
            s.append(x.sounds(beat)).append(' ').append(x.along(beat)).append(' ').append(x.silence(beat, 0)).append(' ');
        }
        return s.append(x.best(0)).append(' ').append(x.best(1)).append(' ').append(x.atTreadle(60)).append(' ').append(x.judged()).append(' ').append(x.lifts()).append(' ').append(x.fewest()).append(' ')
            .append(x.far()).append(' ').append(x.within()).append(' ').append(x.ground()).append(' ').append(x.moved()).append(' ').append(x.order()).append(' ').append(x.ordered(0)).toString();
    }

    private static void counts() {
        sentence("What 0: BOWLS, .. 16: signs on the TAPE. NONE for another what");
        GlassSpindle x = of(bowls(11, "") + "bowl l tone 1 size 1 wall 1 spare;" + "pair a 1 b 1 within 0;".repeat(8) + "speak 1;".repeat(4));
        for (int i = 0; i < 24; i++) {
            x.note(0, i, 1, 1, NONE);
        }
        feed(x, " ".repeat(1000));
        int[] counts = {12, 11, 8, 4, 24, 10, 2, 4, 1, 12, 2, 3, 1, 5, 0, 1, 1000};
        for (int i = 0; i < counts.length; i++) {
            due("count(" + i + ")", x.count(i), counts[i]);
        }
        for (int what : new int[] {LOWEST, -1, 17, 18, HIGHEST}) {
            due("count(" + what + ")", x.count(what), NONE);
        }
    }
}
