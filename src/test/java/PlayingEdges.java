/** Section 2 of the document, sentence by sentence: the last that each takes and the first that it refuses. */
public final class PlayingEdges extends Asking {
    private static final String QUIET = "set soon 0;set warm 0;";
    /** What a greatest int is told as. */
    private static final String GREATEST = "9999*9999*21+6921*6921+3385";

    private PlayingEdges() { }

    public static void main(String[] args) {
        beats();
        noteBowl();
        noteFrom();
        noteLength();
        notePress();
        noteFinger();
        notesAtMost();
        refusedNotes();
        dropping();
        fingering();
        noteFacts();
        touched();
        touchedWhere();
        warmthGrows();
        warmthIsHalved();
        warmthFalls();
        warmthWhere();
        cracks();
        cracksEver();
        crackedWhere();
        soon();
        whyOrder();
        whyWhere();
        press();
        heatAndTouch();
        speed();
        truth();
        wraps();
        speaks();
        sounds();
        ringsByTone();
        ringsByPlace();
        ringsNot();
        ringsWhere();
        silence();
        silenceWhere();
        best();
        atTreadle();
        end("edges of playing");
    }

    private static GlassSpindle playing(String text) {
        return of(bowls(4, "") + text);
    }

    private static void beats() {
        sentence("BEATS are 0 to 199");
        GlassSpindle x = playing(QUIET + "set along 1;");
        x.note(1, 0, 1, 3, NONE);
        x.note(1, 199, 1, 4, NONE);
        due("the first and the last one", "" + x.touched(1, 0) + x.touched(1, 199) + x.warmth(1, 0) + x.warmth(1, 199), "3400");
        due("they sound", "" + x.sounds(0) + x.sounds(199) + x.along(0) + x.along(199), "1255");
        due("why", "" + x.why(0, 0) + x.why(1, 199), "00");
        due("silence", "" + x.silence(0, 0) + x.silence(199, 0), "-1-1");
        for (int beat : new int[] {-1, 200, 201, LOWEST, HIGHEST}) {
            due("beat " + beat, "" + x.touched(1, beat) + x.warmth(1, beat) + x.sounds(beat) + x.along(beat) + x.silence(beat, 0), "-1-1-1-1-1");
            due("why in " + beat, "" + why(x, 0, beat) + why(x, 1, beat), "throwsthrows");
        }
    }

    private static void noteBowl() {
        sentence("NOTES: a BOWL with a PLACE; NONE: others");
        GlassSpindle x = of("bowl s tone 1 size 1 wall 1 spare;" + bowls(10, "") + "bowl t tone 1 size 1 wall 1 spare;");
        for (int bowl : new int[] {LOWEST, -1, 0, 11, 12, HIGHEST}) {
            due("bowl " + bowl, x.note(bowl, 0, 1, 1, NONE), NONE);
        }
        due("the first with a place", x.note(1, 0, 1, 1, NONE), 0);
        due("the last with a place", x.note(10, 0, 1, 1, NONE), 1);
        due("a spare that has come to a place", x.exchange(10, 11) && x.note(11, 0, 1, 1, NONE) == 2, true);
        due("the one that is a spare now", x.note(10, 0, 1, 1, NONE), NONE);
    }

    private static void noteFrom() {
        sentence("from a BEAT (not ahead of the one from which the NOTE before is)");
        GlassSpindle x = of(BOWL);
        due("-1", x.note(0, -1, 1, 1, NONE), NONE);
        due("the least int", x.note(0, LOWEST, 1, 1, NONE), NONE);
        due("0", x.note(0, 0, 1, 1, NONE), 0);
        due("0 again", x.note(0, 0, 1, 1, NONE), 1);
        due("50", x.note(0, 50, 40, 1, NONE), 2);
        due("one ahead", x.note(0, 49, 1, 1, NONE), NONE);
        due("0 once more", x.note(0, 0, 1, 1, NONE), NONE);
        due("the same", x.note(0, 50, 1, 1, NONE), 3);
        due("199", x.note(0, 199, 1, 1, NONE), 4);
        due("198", x.note(0, 198, 1, 1, NONE), NONE);
        due("200", x.note(0, 200, 1, 1, NONE), NONE);
        due("the greatest int", x.note(0, HIGHEST, 1, 1, NONE), NONE);
        due("the last is taken back", x.drop(), true);
        due("49", x.note(0, 49, 1, 1, NONE), NONE);
        due("51", x.note(0, 51, 1, 1, NONE), 4);
    }

    private static void noteLength() {
        sentence("so LONG (1 to 40, within the BEATS)");
        GlassSpindle x = of(BOWL);
        for (int length : new int[] {LOWEST, -1, 0, 41, 200, HIGHEST}) {
            due("length " + length, x.note(0, 0, length, 1, NONE), NONE);
        }
        due("1", x.note(0, 0, 1, 1, NONE), 0);
        due("40", x.note(0, 0, 40, 1, NONE), 1);
        due("40 from 160", x.note(0, 160, 40, 1, NONE), 2);
        due("40 from 161", x.note(0, 161, 40, 1, NONE), NONE);
        due("39 from 161", x.note(0, 161, 39, 1, NONE), 3);
        due("3 from 198", x.note(0, 198, 3, 1, NONE), NONE);
        due("2 from 198", x.note(0, 198, 2, 1, NONE), 4);
        due("2 from 199", x.note(0, 199, 2, 1, NONE), NONE);
        due("0 from 199", x.note(0, 199, 0, 1, NONE), NONE);
        due("1 from 199", x.note(0, 199, 1, 1, NONE), 5);
        due("ints wrap", x.note(0, HIGHEST - 10, 40, 1, NONE), NONE);
        due("ints wrap", x.note(0, 199, HIGHEST, 1, NONE), NONE);
    }

    private static void notePress() {
        sentence("a press of 1 to 9");
        GlassSpindle x = of(BOWL);
        for (int press : new int[] {LOWEST, -1, 0, 10, HIGHEST}) {
            due("press " + press, x.note(0, 0, 1, press, NONE), NONE);
        }
        due("1", x.note(0, 0, 1, 1, NONE), 0);
        due("9", x.note(0, 0, 1, 9, NONE), 1);
        due("both", "" + x.noteOf(0, 3) + x.noteOf(1, 3), "19");
    }

    private static void noteFinger() {
        sentence("a finger (or none): 0 to fingers less 1, those behind, as many; NONE: none");
        for (int fingers = 1; fingers <= 3; fingers++) {
            GlassSpindle x = of(BOWL + "set fingers " + fingers + ";");
            for (int finger : new int[] {LOWEST, -2, 2 * fingers, 2 * fingers + 1, HIGHEST}) {
                due("finger " + finger + " of " + fingers, x.note(0, 0, 1, 1, finger), NONE);
            }
            due("the last of " + fingers, x.note(0, 0, 1, 1, 2 * fingers - 1), 0);
            due("the first", x.note(0, 0, 1, 1, 0), 1);
            due("none", x.note(0, 0, 1, 1, NONE), 2);
            due("as told", "" + x.noteOf(0, 4) + x.noteOf(1, 4) + x.noteOf(2, 4), "" + (2 * fingers - 1) + "0-1");
        }
    }

    private static void notesAtMost() {
        sentence("NOTES, 24 at most; NONE: 24 are there");
        GlassSpindle x = of(BOWL + "bowl b tone 1 size 1 wall 1 spare;" + QUIET);
        for (int i = 0; i < 24; i++) {
            due("note " + i, x.note(0, i, 2, 9, NONE), i);
        }
        due("a 25th", x.note(0, 30, 1, 1, 0), NONE);
        due("count(4)", x.count(4), 24);
        due("the last one", "" + x.noteOf(23, 1) + x.noteOf(24, 1), "23-1");
        due("hands of 24", "" + x.lifts() + " " + x.judged() + " " + x.moved(), "24 0 0");
        due("all else of 24", x.touched(0, 23) + " " + x.speaks(23) + " " + x.sounds(24) + " " + x.silence(0, 0) + " " + x.along(24), "18 2 8388608 -1 0");
        GlassSpindle y = playing(QUIET + "set dry 99;set along 1;speak speed<21 or speed=60;");
        for (int i = 0; i < 24; i++) {
            y.note(i < 23 ? 0 : 2, i, 1, 9, 0);
        }
        due("24 of four bowls", y.along(0) + " " + y.along(23) + " " + y.sounds(23) + " " + y.best(0) + " " + y.best(1) + " " + y.atTreadle(30) + " " + y.atTreadle(11), "2 10 8388608 1 24 24 0");
        due("hands of them", y.order() + " " + y.ordered(1) + " " + y.moved() + " " + y.lifts() + " " + y.judged() + " " + y.cracked(2) + " " + y.wrong(23), "1 2 2 2 -1 -1 0");
        y = playing(QUIET + "speak 1;");
        for (int i = 0; i < 24; i++) {
            y.note(0, 0, 1, 1, NONE);
        }
        due("24 at once, nothing rings", "" + y.along(0) + y.silence(0, 0) + y.best(1) + y.order(), "0-1240");
        due("24 go to another bowl", x.exchange(0, 1) && x.noteOf(23, 0) == 1 && x.noteOf(0, 0) == 1, true);
        due("one is taken back", x.drop(), true);
        due("23 are there", x.count(4), 23);
        due("a 24th again", x.note(1, 30, 1, 1, 0), 23);
        due("a 25th", x.note(1, 30, 1, 1, 0), NONE);
    }

    private static void refusedNotes() {
        sentence("NONE: others - and nothing changes then");
        GlassSpindle x = of(BOWL + "bowl b tone 1 size 1 wall 1 spare;");
        x.note(0, 5, 5, 5, 2);
        x.note(1, 9, 1, 1, 1);
        x.note(0, 9, 41, 1, 1);
        x.note(0, 9, 1, 10, 1);
        x.note(0, 9, 1, 1, 4);
        x.note(0, 4, 1, 1, 1);
        due("one note", x.count(4), 1);
        due("as it was", "" + x.noteOf(0, 0) + x.noteOf(0, 1) + x.noteOf(0, 2) + x.noteOf(0, 3) + x.noteOf(0, 4), "05552");
        due("touched", "" + x.touched(0, 4) + x.touched(0, 9) + x.touched(1, 9), "050");
        due("the next may be where it is", x.note(0, 5, 1, 1, 1), 1);
    }

    private static void dropping() {
        sentence("The last NOTE is taken back: true; false: there is none");
        GlassSpindle x = of(BOWL);
        due("none", x.drop(), false);
        x.note(0, 0, 1, 1, 0);
        x.note(0, 1, 1, 2, 0);
        due("the last of 2", x.drop(), true);
        due("the first is there", "" + x.count(4) + x.noteOf(0, 3) + x.noteOf(1, 3), "11-1");
        due("the last of 1", x.drop(), true);
        due("none", x.drop(), false);
        due("none", x.count(4), 0);
        x.note(0, 0, 1, 1, 0);
        read(x, BOWL);
        due("none in a new spindle", x.drop(), false);
    }

    private static void fingering() {
        sentence("A NOTE has another finger (NONE: none): true; false: others");
        for (int fingers = 1; fingers <= 3; fingers++) {
            GlassSpindle x = of(BOWL + "set fingers " + fingers + ";");
            due("no notes", x.finger(0, 0), false);
            x.note(0, 0, 1, 1, 0);
            x.note(0, 0, 1, 1, 0);
            due("the last finger of the first note", x.finger(0, 2 * fingers - 1), true);
            due("none for the last note", x.finger(1, NONE), true);
            for (int finger : new int[] {LOWEST, -2, 2 * fingers, HIGHEST}) {
                due("finger " + finger + " of " + fingers, x.finger(0, finger) || x.finger(1, finger), false);
            }
            for (int note : new int[] {LOWEST, -1, 2, 24, HIGHEST}) {
                due("note " + note, x.finger(note, 0) || x.finger(note, NONE), false);
            }
            due("those refused change nothing", "" + x.noteOf(0, 4) + x.noteOf(1, 4), "" + (2 * fingers - 1) + "-1");
            due("the first finger", x.finger(0, 0) && x.noteOf(0, 4) == 0, true);
            due("the one it has", x.finger(0, 0), true);
        }
    }

    private static void noteFacts() {
        sentence("Of a NOTE, what 0: its BOWL, 1: from, 2: how long, 3: press, 4: finger; NONE: others");
        GlassSpindle x = of(bowls(12, "") + "set fingers 3;");
        due("no notes", x.noteOf(0, 0), NONE);
        x.note(0, 0, 1, 1, 0);
        x.note(11, 160, 40, 9, 5);
        due("the least", "" + x.noteOf(0, 0) + x.noteOf(0, 1) + x.noteOf(0, 2) + x.noteOf(0, 3) + x.noteOf(0, 4), "00110");
        due("the most", "" + x.noteOf(1, 0) + x.noteOf(1, 1) + x.noteOf(1, 2) + x.noteOf(1, 3) + x.noteOf(1, 4), "111604095");
        for (int what : new int[] {LOWEST, -1, 5, 6, HIGHEST}) {
            due("what " + what, x.noteOf(0, what), NONE);
        }
        for (int note : new int[] {LOWEST, -1, 2, HIGHEST}) {
            due("note " + note, x.noteOf(note, 0), NONE);
        }
    }

    private static void touched() {
        sentence("A BOWL is TOUCHED in a BEAT if NOTES of it last then; by all their presses together");
        GlassSpindle x = playing("");
        x.note(1, 10, 3, 2, NONE);
        x.note(1, 12, 1, 9, NONE);
        x.note(2, 12, 1, 5, NONE);
        due("ahead, first, last, behind", "" + x.touched(1, 9) + x.touched(1, 10) + x.touched(1, 11) + x.touched(1, 12) + x.touched(1, 13), "022110");
        due("another one", "" + x.touched(2, 11) + x.touched(2, 12) + x.touched(2, 13) + x.touched(0, 12), "0500");
        x = of(BOWL);
        for (int i = 0; i < 24; i++) {
            x.note(0, 199, 1, 9, NONE);
        }
        due("24 together", x.touched(0, 199), 216);
    }

    private static void touchedWhere() {
        sentence("By how much a BOWL is TOUCHED in a BEAT (0: not); NONE: others");
        GlassSpindle x = of(BOWL + "bowl b tone 1 size 1 wall 1 spare;");
        x.note(0, 0, 1, 1, NONE);
        due("not", x.touched(0, 1), 0);
        due("a spare", x.touched(1, 0), 0);
        for (int bowl : new int[] {LOWEST, -1, 2, 12, HIGHEST}) {
            due("bowl " + bowl, "" + x.touched(bowl, 0) + x.warmth(bowl, 0) + x.cracked(bowl), "-1-1-1");
        }
        due("no bowls", new GlassSpindle().touched(0, 0), NONE);
        due("no bowls", new GlassSpindle().warmth(0, 0), NONE);
    }

    private static void warmthGrows() {
        sentence("WARMTH of a BOWL is 0 at first; behind a BEAT in which it is TOUCHED it is more by warm * the presses");
        GlassSpindle x = playing("set warm 99;set cool 0;");
        x.note(0, 0, 2, 9, NONE);
        x.note(0, 1, 1, 1, NONE);
        due("as beats begin", "" + x.warmth(0, 0) + " " + x.warmth(0, 1) + " " + x.warmth(0, 2) + " " + x.warmth(0, 199), "0 891 1881 1881");
        x = playing("set warm 0;set cool 1;");
        x.note(0, 0, 40, 9, NONE);
        due("warm 0", x.warmth(0, 40), 0);
        x = playing("set warm 99;");
        for (int i = 0; i < 24; i++) {
            x.note(0, 0, 40, 9, NONE);
        }
        due("the most there is", x.warmth(0, 40), 99 * 216 * 40);
        due("as untold", "" + warmed("", "", 3), "0 9 8 7");
    }

    private static String warmed(String kind, String settings, int press) {
        GlassSpindle x = of("bowl a tone 1 size 1 wall 20" + kind + ";" + settings);
        x.note(0, 0, 1, press, NONE);
        return "" + x.warmth(0, 0) + " " + x.warmth(0, 1) + " " + x.warmth(0, 2) + " " + x.warmth(0, 3);
    }

    private static void warmthIsHalved() {
        sentence("(rimmed and gilt: the half of that, cut)");
        due("plain", warmed("", "set warm 3;set cool 0;", 1), "0 3 3 3");
        due("rimmed, odd", warmed(" rimmed", "set warm 3;set cool 0;", 1), "0 1 1 1");
        due("gilt, odd", warmed(" gilt", "set warm 3;set cool 0;", 1), "0 1 1 1");
        due("rimmed, 1 is cut to 0", warmed(" rimmed", "set warm 1;set cool 0;", 1), "0 0 0 0");
        due("gilt, even", warmed(" gilt", "set warm 4;set cool 0;", 1), "0 2 2 2");
        GlassSpindle x = of("bowl a tone 1 size 1 wall 20 rimmed;set warm 3;set cool 0;");
        x.note(0, 0, 1, 1, NONE);
        x.note(0, 0, 1, 2, NONE);
        due("the half of all together: 9, not 3 and 6", x.warmth(0, 1), 4);
    }

    private static void warmthFalls() {
        sentence("else less by cool, but not below 0");
        due("by 1", warmed("", "set warm 2;set cool 1;", 1), "0 2 1 0");
        due("just to 0", warmed("", "set warm 2;set cool 2;", 1), "0 2 0 0");
        due("not below 0", warmed("", "set warm 2;set cool 3;", 1), "0 2 0 0");
        due("cool 0", warmed("", "set warm 2;set cool 0;", 1), "0 2 2 2");
        due("cool 99", warmed("", "set warm 99;set cool 99;", 2), "0 198 99 0");
        GlassSpindle x = of("bowl a tone 1 size 1 wall 20;set warm 2;set cool 5;");
        x.note(0, 10, 1, 3, NONE);
        due("it does not fall below 0 ahead of a note", "" + x.warmth(0, 10) + x.warmth(0, 11) + x.warmth(0, 12) + x.warmth(0, 13), "0610");
    }

    private static void warmthWhere() {
        sentence("WARMTH of a BOWL as a BEAT begins; NONE: others");
        GlassSpindle x = of(BOWL + "bowl b tone 1 size 1 wall 1 spare;");
        x.note(0, 198, 2, 1, NONE);
        due("198, 199, 200", "" + x.warmth(0, 198) + x.warmth(0, 199) + x.warmth(0, 200), "03-1");
        due("a spare", x.warmth(1, 199), 0);
    }

    private static void cracks() {
        sentence("It is CRACKED from the first BEAT on that begins with a WARMTH above wall * crack");
        for (int wall : new int[] {1, 20}) {
            GlassSpindle x = of("bowl a tone 1 size 1 wall " + wall + ";set warm 1;set cool 0;set soon 0;set crack 2;");
            x.note(0, 0, 40, 1, NONE);
            due("as high as wall * crack, wall " + wall, x.warmth(0, 2 * wall), 2 * wall);
            due("above, wall " + wall, x.cracked(0), wall == 20 ? NONE : 3);
            x.note(0, 40, 2, 1, NONE);
            due("above, wall " + wall, x.cracked(0), 2 * wall + 1);
            due("from then on", "" + (wall == 20 ? x.why(1, 40) : x.why(0, 2)) + (wall == 20 ? x.why(1, 41) : x.why(0, 3)), "02");
        }
        GlassSpindle x = of("bowl a tone 1 size 1 wall 20;set crack 999;set warm 90;set cool 0;");
        x.note(0, 0, 24, 9, NONE);
        x.note(0, 0, 6, 1, NONE);
        due("19980 is not above", x.warmth(0, 24) + " " + x.cracked(0), "19980 -1");
        x.note(0, 30, 1, 1, NONE);
        due("20070 is", x.cracked(0), 31);
        due("crack 1", of(BOWL + "set crack 1;set warm 1;").cracked(0), NONE);
        x = of(BOWL + "set crack 1;set warm 1;");
        x.note(0, 0, 2, 1, NONE);
        due("from the first beat on that begins so", x.cracked(0), 2);
    }

    private static void cracksEver() {
        sentence("(and ever since)");
        GlassSpindle x = of(BOWL + "set crack 5;set warm 6;set cool 6;set soon 0;");
        x.note(0, 0, 1, 1, NONE);
        x.note(0, 198, 2, 1, NONE);
        due("cold again", "" + x.warmth(0, 2) + x.warmth(0, 198), "00");
        due("cracked", x.cracked(0), 1);
        due("to the last beat", "" + x.why(0, 0) + x.why(1, 198) + x.why(1, 199), "022");
        x.drop();
        x.drop();
        x.note(0, 198, 2, 1, NONE);
        due("behind beat 198", x.cracked(0), 199);
        x.drop();
        x.note(0, 199, 1, 1, NONE);
        due("behind the last beat no more", x.cracked(0), NONE);
    }

    private static void crackedWhere() {
        sentence("From which BEAT on a BOWL is CRACKED; NONE: others, never");
        GlassSpindle x = of(bowls(2, "") + "bowl s tone 1 size 1 wall 1 spare;set warm 99;");
        x.note(1, 0, 3, 9, NONE);
        due("never, at once, a spare", "" + x.cracked(0) + x.cracked(1) + x.cracked(2), "-11-1");
        for (int bowl : new int[] {LOWEST, -1, 3, HIGHEST}) {
            due("bowl " + bowl, x.cracked(bowl), NONE);
        }
    }

    private static void soon() {
        sentence("1 it has lasted fewer BEATS than soon");
        for (int soon = 0; soon <= 9; soon++) {
            GlassSpindle x = playing("set soon " + soon + ";set warm 0;");
            x.note(0, 100, 20, 1, NONE);
            if (soon > 0) {
                due("ahead of soon " + soon, "" + x.why(0, 100) + x.why(0, 100 + soon - 1), "11");
            }
            due("from soon " + soon + " on", "" + x.why(0, 100 + soon) + x.why(0, 119), "00");
            due("speaks", x.speaks(0), 20 - soon);
            x.note(0, 150, Math.max(1, soon), 1, NONE);
            due("just so long as soon " + soon, x.speaks(1), soon == 0 ? 1 : 0);
        }
    }

    private static void whyOrder() {
        sentence("WHY not is the first that does: 1, 2, 3, 4");
        // By settings what holds in the last beat: bit by bit too soon, cracked, dry, unlawful.
        for (int holds = 0; holds < 16; holds++) {
            GlassSpindle x = of("bowl a tone 1 size 1 wall 1;set cool 0;set soon " + ((holds & 1) != 0 ? 9 : 1) + ";set warm " + ((holds & 2) != 0 ? 9 : 0)
                + ";set dry " + ((holds & 4) != 0 ? 1 : 99) + ";speak " + ((holds & 8) != 0 ? 0 : 1) + ";");
            x.note(0, 0, 5, 1, 0);
            due("bits " + holds, x.why(0, 4), holds == 0 ? 0 : 1 + Integer.numberOfTrailingZeros(holds));
            x.finger(0, NONE);
            int left = holds & ~4;
            due("bits " + holds + " without a finger", x.why(0, 4), left == 0 ? 0 : 1 + Integer.numberOfTrailingZeros(left));
        }
    }

    private static void whyWhere() {
        sentence("NoSuchElementException: no such NOTE, it does not last then");
        GlassSpindle x = playing(QUIET);
        due("no notes", why(x, 0, 0), THROWS);
        x.note(0, 10, 3, 1, NONE);
        x.note(1, 11, 1, 1, NONE);
        due("ahead, first, last, behind", "" + why(x, 0, 9) + why(x, 0, 10) + why(x, 0, 12) + why(x, 0, 13), "throws00throws");
        due("of one beat", "" + why(x, 1, 10) + why(x, 1, 11) + why(x, 1, 12), "throws0throws");
        for (int note : new int[] {LOWEST, -1, 2, 24, HIGHEST}) {
            due("note " + note, why(x, note, 11), THROWS);
        }
        x.drop();
        due("dropped", why(x, 1, 11), THROWS);
        x.note(0, 160, 40, 1, NONE);
        due("the last beat", "" + why(x, 1, 199) + why(x, 1, 200), "0throws");
    }

    private static void press() {
        sentence("press: its own, gilt: one less");
        for (int press : new int[] {1, 9}) {
            for (String kind : new String[] {"", " rimmed", " gilt"}) {
                int told = kind.equals(" gilt") ? press - 1 : press;
                GlassSpindle x = of("bowl a tone 1 size 1 wall 20" + kind + ";set soon 0;set warm 0;speak press=" + told + ";speak not(press=" + (told + 1) + ");");
                x.note(0, 0, 1, press, NONE);
                x.note(0, 0, 1, 5, NONE);
                due("press " + press + kind, x.why(0, 0), 0);
                due("its own alone", x.why(1, 0), 4);
            }
        }
        GlassSpindle x = of("bowl a tone 1 size 1 wall 20 gilt;bowl b tone 1 size 1 wall 20 spare;set soon 0;speak press=3;");
        x.note(0, 0, 1, 3, NONE);
        due("gilt", x.why(0, 0), 4);
        x.exchange(0, 1);
        due("it is plain then", x.why(0, 0), 0);
    }

    private static void heatAndTouch() {
        sentence("heat (WARMTH of the BOWL as the BEAT begins), touch (BEATS of the NOTE ahead of this one), wall");
        GlassSpindle x = of("bowl a tone 1 size 1 wall 20;set soon 0;set warm 2;set crack 999;speak heat=touch*2;");
        x.note(0, 3, 40, 1, NONE);
        due("from 0 on", "" + x.why(0, 3) + x.why(0, 4) + x.why(0, 42) + x.speaks(0), "00040");
        x.note(0, 42, 2, 1, NONE);
        due("another note's touch is its own", "" + x.why(0, 42) + x.why(1, 42) + x.why(1, 43), "044");
        x = of("bowl a tone 1 size 1 wall 1;bowl b tone 1 size 1 wall 20;set soon 0;speak wall=20;");
        x.note(0, 0, 1, 1, NONE);
        x.note(1, 0, 1, 1, NONE);
        due("wall", "" + x.why(0, 0) + x.why(1, 0), "40");
        x = of("bowl a tone 1 size 1 wall 1;" + QUIET + "speak touch=39;");
        x.note(0, 0, 40, 1, NONE);
        due("the most touch", "" + x.why(0, 39) + x.why(0, 38), "04");
    }

    private static void speed() {
        sentence("speed (size * treadle)");
        GlassSpindle x = of("bowl a tone 1 size 1 wall 20;bowl b tone 1 size 99 wall 20;" + QUIET + "set treadle 99;speak speed=99 or speed=9801;");
        x.note(0, 0, 1, 1, NONE);
        x.note(1, 0, 1, 1, NONE);
        due("the least and the greatest size", "" + x.why(0, 0) + x.why(1, 0), "00");
        due("at treadle 99, 98, 1", "" + x.atTreadle(99) + x.atTreadle(98) + x.atTreadle(1), "201");
        x = of("bowl a tone 1 size 7 wall 20;" + QUIET + "speak speed=70;");
        x.note(0, 0, 1, 1, NONE);
        due("treadle 10 untold", x.why(0, 0), 0);
    }

    private static boolean holds(String law) {
        GlassSpindle x = of("bowl a tone 1 size 1 wall 20;" + QUIET + "speak " + law + ";");
        x.note(0, 0, 1, 1, NONE);
        return x.why(0, 0) == 0;
    }

    private static void truth() {
        sentence("Of not, and, or, < and = comes 1 or 0; what is not 0 is so");
        String[] so = {"1", "2", "9999", "0-1", "not 0", "not(1-1)", "(not 0)=1", "(not 7)=0", "not not 7=1", "(0-7 and 2)=1", "(0 or 0-7)=1", "(0 or 0)=0", "(1 and 0)=0",
            "(1<2)=1", "(2<2)=0", "(2=2)=1", "(2=3)=0", "0-1<0", "1<2 and 2<3", "0 and 0 or 1", "1 or 0 and 1", "not 0+1=2", "not 0*5=5", "1-1-1=0-1", "2*3+4*5=26", "1<1+1", "not press=0"};
        String[] notSo = {"0", "0000", "1-1", "not 1", "not 2", "not(0-1)", "2<2", "3<2", "2=3", "0<0-1", "1 and 0", "0 or 0", "1 or 1 and 0", "0 and 1", "not 1 or 0", "not 1+1<1"};
        for (String law : so) {
            due(law, holds(law), true);
        }
        for (String law : notSo) {
            due(law, holds(law), false);
        }
    }

    private static void wraps() {
        sentence("ints wrap");
        due("the greatest int", holds("0<" + GREATEST), true);
        due("one more", holds(GREATEST + "+1<0"), true);
        due("the same the other way", holds("0-(" + GREATEST + ")-1=" + GREATEST + "+1"), true);
        due("one less than the least", holds("0-(" + GREATEST + ")-2=" + GREATEST), true);
        due("the least is below 0", holds("0-(" + GREATEST + ")-1<0"), true);
        due("times 21", holds("0<9999*9999*21"), true);
        due("times 22", holds("9999*9999*22<0"), true);
        due("to 0", holds("4096*4096*256"), false);
        due("to 0, so 0 is equal", holds("4096*4096*256=0"), true);
        due("half of that", holds("4096*4096*128=" + GREATEST + "+1"), true);
        due("less by a wrapped one", holds("(4096*4096*128)-1=" + GREATEST), true);
    }

    private static void speaks() {
        sentence("In how many BEATS a NOTE SPEAKS; NONE: none such");
        GlassSpindle x = playing(QUIET);
        due("no notes", x.speaks(0), NONE);
        x.note(0, 0, 1, 1, NONE);
        x.note(0, 160, 40, 1, NONE);
        due("all of them", "" + x.speaks(0) + x.speaks(1), "140");
        for (int note : new int[] {LOWEST, -1, 2, HIGHEST}) {
            due("note " + note, x.speaks(note), NONE);
        }
    }

    private static void sounds() {
        sentence("NOTES that SPEAK in a BEAT as bits; NONE: none such");
        GlassSpindle x = playing(QUIET);
        due("no notes", "" + x.sounds(0) + x.sounds(199), "00");
        for (int i = 0; i < 24; i++) {
            x.note(i % 4, 10, 1 + i, 1, NONE);
        }
        due("ahead", x.sounds(9), 0);
        due("all", x.sounds(10), (1 << 24) - 1);
        due("all but the first", x.sounds(11), (1 << 24) - 2);
        due("the last alone", x.sounds(33), 1 << 23);
        due("behind", x.sounds(34), 0);
    }

    private static void ringsByTone() {
        sentence("a NOTE SPEAKS whose tone is not farther than along from its own");
        String tones = "bowl a tone 90 size 1 wall 20;bowl b tone 100 size 1 wall 20;bowl c tone 110 size 1 wall 20;";
        for (int along = 9; along <= 11; along++) {
            GlassSpindle x = of(tones + QUIET + "set along " + along + ";");
            x.note(1, 0, 1, 1, NONE);
            due("10 apart, along " + along, x.along(0), along < 10 ? 0 : 5);
        }
        GlassSpindle x = of("bowl a tone 100 size 1 wall 20;bowl b tone 100 size 1 wall 20;bowl c tone 101 size 1 wall 20;" + QUIET);
        x.note(1, 0, 1, 1, NONE);
        due("along 0 as untold: alike in tone alone", x.along(0), 1);
        x = of("bowl a tone 1 size 1 wall 20;bowl b tone 1000 size 1 wall 20;bowl c tone 2000 size 1 wall 20;" + QUIET + "set along 999;");
        x.note(1, 0, 1, 1, NONE);
        due("along 999", x.along(0), 1);
    }

    private static void ringsByPlace() {
        sentence("at a PLACE next to its own");
        GlassSpindle x = of("bowl s tone 100 size 1 wall 20 spare;" + bowls(10, "") + "bowl t tone 100 size 1 wall 20 spare;" + QUIET + "set along 999;");
        for (int bowl = 1; bowl <= 10; bowl++) {
            x.note(bowl, bowl, 1, 1, NONE);
        }
        due("of the first the next alone, spares never", x.along(1), 1 << 2);
        for (int bowl = 2; bowl <= 9; bowl++) {
            due("of " + bowl + " both", x.along(bowl), 1 << bowl - 1 | 1 << bowl + 1);
        }
        due("of the last the one before alone", x.along(10), 1 << 9);
        x.exchange(2, 11);
        due("a spare that has come to a place", x.along(1), 1 << 11);
        due("next over a spare told between", of("bowl a tone 1 size 1 wall 1;bowl s tone 1 size 1 wall 1 spare;bowl b tone 1 size 1 wall 1;" + QUIET).note(2, 0, 1, 1, NONE), 0);
        x = of("bowl a tone 1 size 1 wall 1;bowl s tone 1 size 1 wall 1 spare;bowl b tone 1 size 1 wall 1;" + QUIET);
        x.note(2, 0, 1, 1, NONE);
        due("next over a spare told between", x.along(0), 1);
        x = of(BOWL + QUIET);
        x.note(0, 0, 1, 1, NONE);
        due("not at its own place", x.along(0), 0);
    }

    private static void ringsNot() {
        sentence("A BOWL RINGS ALONG if no NOTE of it lasts, it is not CRACKED");
        GlassSpindle x = playing("set soon 1;set warm 0;set along 999;");
        x.note(1, 0, 3, 1, NONE);
        x.note(2, 2, 2, 1, NONE);
        due("too soon, speaks, a silent note of its own lasts, behind", "" + x.along(0) + x.along(1) + x.along(2) + x.along(3) + x.along(4), "051100");
        x = of("bowl a tone 1 size 1 wall 1;bowl b tone 1 size 1 wall 20;set soon 0;set warm 6;set cool 6;");
        x.note(1, 0, 9, 1, NONE);
        x.note(0, 3, 1, 1, NONE);
        due("until it is touched, and cracked ever since", "" + x.along(2) + x.along(3) + x.along(4) + x.along(8), "1000");
        due("it is cold", "" + x.cracked(0) + x.warmth(0, 8), "40");
    }

    private static void ringsWhere() {
        sentence("BOWLS that RING ALONG in a BEAT as bits; NONE: none such");
        GlassSpindle x = new GlassSpindle();
        due("no bowls", "" + x.along(0) + x.along(199) + x.along(200) + x.along(-1), "00-1-1");
        x = playing(QUIET + "set along 9;");
        due("no notes", x.along(0), 0);
        x.note(0, 5, 1, 1, NONE);
        due("ahead, then, behind", "" + x.along(4) + x.along(5) + x.along(6), "020");
    }

    private static void silence() {
        sentence("SILENCE: a BEAT in which some NOTE lasts and none SPEAKS; by the first such NOTE");
        GlassSpindle x = playing("set soon 1;set warm 0;");
        due("no notes", x.silence(0, 0), NONE);
        x.note(0, 0, 1, 1, NONE);
        x.note(1, 5, 3, 1, NONE);
        x.note(2, 5, 1, 1, NONE);
        x.note(3, 7, 3, 1, NONE);
        x.note(0, 199, 1, 1, NONE);
        due("from 0", "" + x.silence(0, 0) + x.silence(0, 1) + x.silence(0, 2), "001");
        due("from 1: the first of two", "" + x.silence(1, 0) + x.silence(1, 1) + x.silence(1, 2), "511");
        due("from 5: itself", x.silence(5, 0), 5);
        due("from 6: one speaks until the next one does", "" + x.silence(6, 0) + " " + x.silence(6, 1), "199 4");
        due("from 199", "" + x.silence(199, 0) + " " + x.silence(199, 1) + x.silence(199, 2), "199 41");
        x = of(bowls(2, "") + QUIET + "set dry 2;speak press=1;");
        x.note(0, 0, 5, 1, 0);
        x.note(1, 1, 5, 2, NONE);
        due("why that one: the first lasts, and is dry", "" + x.silence(0, 0) + x.silence(0, 1) + x.silence(0, 2), "203");
        due("then the second one alone", "" + x.silence(5, 0) + x.silence(5, 1) + x.silence(5, 2), "514");
        due("none behind it", "" + x.silence(6, 0) + x.silence(6, 1) + x.silence(6, 2), "-1-1-1");
    }

    private static void silenceWhere() {
        sentence("what 0: its BEAT, 1: whose, 2: WHY that one; NONE: others, there is none");
        GlassSpindle x = playing("");
        x.note(0, 0, 1, 1, NONE);
        for (int what : new int[] {LOWEST, -1, 3, HIGHEST}) {
            due("what " + what, x.silence(0, what), NONE);
        }
        for (int beat : new int[] {LOWEST, -1, 200, HIGHEST}) {
            due("beat " + beat, "" + x.silence(beat, 0) + x.silence(beat, 1) + x.silence(beat, 2), "-1-1-1");
        }
        due("none from 1 on", "" + x.silence(1, 0) + x.silence(1, 1) + x.silence(1, 2), "-1-1-1");
    }

    private static GlassSpindle treadled(String law) {
        GlassSpindle x = of("bowl a tone 1 size 1 wall 20;bowl b tone 1 size 2 wall 20;" + QUIET + "set treadle 50;speak " + law + ";");
        x.note(0, 0, 3, 1, NONE);
        x.note(1, 1, 2, 1, NONE);
        return x;
    }

    private static void best() {
        sentence("BEST: the treadle (1 to 99) at which the most BEATS of all NOTES SPEAK, of equal ones the least");
        due("no notes", "" + new GlassSpindle().best(0) + new GlassSpindle().best(1), "10");
        String[][] rows = {{"0", "1 0"}, {"1", "1 5"}, {"speed=99", "99 3"}, {"speed=198", "99 2"}, {"speed=1", "1 3"}, {"speed=2", "2 3"}, {"98<speed", "99 5"}, {"97<speed", "98 5"}, {"speed<3", "1 5"}, {"speed=2 or speed=1", "1 5"},
            {"speed=10 or speed=20", "10 5"}, {"speed=10 or speed=30", "10 3"}, {"speed=9999", "1 0"}, {"speed=60 and touch=0 or speed=62 and touch=1", "31 1"}};
        for (String[] row : rows) {
            GlassSpindle x = treadled(row[0]);
            due(row[0], x.best(0) + " " + x.best(1), row[1]);
            due("the one told stays", x.count(5), 50);
        }
        sentence("BEST, what 0: the treadle, 1: how many BEATS; NONE: another what");
        GlassSpindle x = treadled("1");
        for (int what : new int[] {LOWEST, -1, 2, HIGHEST}) {
            due("what " + what, x.best(what), NONE);
        }
    }

    private static void atTreadle() {
        sentence("How many BEATS of all NOTES SPEAK at a treadle; NONE: others");
        GlassSpindle x = treadled("speed=99 or speed=1 or speed=100");
        due("1, 50, 99, 98", "" + x.atTreadle(1) + x.atTreadle(50) + x.atTreadle(99) + x.atTreadle(98), "3230");
        for (int treadle : new int[] {LOWEST, -1, 0, 100, HIGHEST}) {
            due("treadle " + treadle, x.atTreadle(treadle), NONE);
        }
        due("no notes", "" + new GlassSpindle().atTreadle(1) + new GlassSpindle().atTreadle(99), "00");
        x = of("bowl a tone 1 size 1 wall 1;set soon 2;set crack 9;set warm 2;set dry 3;set treadle 99;speak 49<speed;speak not(touch=2);");
        x.note(0, 0, 9, 1, NONE);
        // Beats 0 and 1 are too soon, 2 is unlawful, from 5 on it is cracked.
        due("what else is so", "" + x.atTreadle(49) + x.atTreadle(50) + x.atTreadle(99), "022");
        GlassSpindle y = of(BOWL + QUIET + "set treadle 50;speak 9<speed;speak 1;speak speed<20 or 40<speed;speak not(speed=60);");
        y.note(0, 0, 1, 1, NONE);
        due("by all laws that name speed", "" + y.atTreadle(9) + y.atTreadle(10) + y.atTreadle(19) + y.atTreadle(20) + y.atTreadle(40) + y.atTreadle(41) + y.atTreadle(59) + y.atTreadle(60) + y.atTreadle(61), "011001101");
        due("the first of them", y.best(0) + " " + y.best(1), "10 1");
        y = of(BOWL + QUIET + "set treadle 60;speak 9<speed;speak speed<20 or 40<speed;speak not(speed=60);");
        y.note(0, 0, 1, 1, NONE);
        due("whatever is told", "" + y.why(0, 0) + y.atTreadle(9) + y.atTreadle(10) + y.atTreadle(20) + y.atTreadle(41) + y.atTreadle(60) + y.atTreadle(61), "4010101");
        x.finger(0, 0);
        due("dry from 3 on", "" + x.atTreadle(50) + x.atTreadle(99) + x.best(1), "000");
    }
}
