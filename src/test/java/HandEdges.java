/** Section 3 of the document, sentence by sentence: the last that each takes and the first that it refuses. */
public final class HandEdges extends Asking {
    private HandEdges() { }

    public static void main(String[] args) {
        hands();
        noFinger();
        busy();
        crosses();
        reach();
        notesBefore();
        firstThatHolds();
        wetAtFirst();
        dry();
        dip();
        dipByNumber();
        dryByNumber();
        wrongWhere();
        judged();
        lifts();
        liftsByNumber();
        fewest();
        fewestOfEqual();
        fewestOnOneBowl();
        fewestAtMost();
        fingered();
        far();
        farAtMost();
        end("edges of hands");
    }

    private static GlassSpindle hands(String text) {
        return of(bowls(12, "") + "set soon 0;set warm 0;" + text);
    }

    /** What is wrong with the second of two NOTES at once. */
    private static int second(GlassSpindle x, int bowl, int finger, int otherBowl, int otherFinger) {
        x.note(bowl, 0, 1, 1, finger);
        x.note(otherBowl, 0, 1, 1, otherFinger);
        int answer = x.wrong(1);
        x.drop();
        x.drop();
        return answer;
    }

    private static void hands() {
        sentence("FINGERS of the left hand are 0 to fingers less 1, of the right hand those behind, as many");
        for (int fingers = 1; fingers <= 3; fingers++) {
            GlassSpindle x = hands("set reach 1;set fingers " + fingers + ";");
            for (int low = 0; low < 2 * fingers; low++) {
                for (int high = low + 1; high < 2 * fingers; high++) {
                    boolean oneHand = low < fingers == high < fingers;
                    due("fingers " + low + " and " + high + " of " + fingers + ", far apart", second(x, 0, low, 11, high), oneHand ? 4 : 0);
                    due("the other way round", second(x, 11, high, 0, low), oneHand ? 4 : 0);
                }
            }
            due("one behind the last", x.note(0, 0, 1, 1, 2 * fingers), NONE);
        }
    }

    private static void noFinger() {
        sentence("WRONG: 1 it has none");
        GlassSpindle x = hands("");
        x.note(0, 0, 40, 1, NONE);
        due("none", x.wrong(0), 1);
        x.finger(0, 0);
        due("the first one, but dry", x.wrong(0), 5);
        x.drop();
        x.note(0, 0, 1, 1, 0);
        due("the first one", x.wrong(0), 0);
        x.finger(0, NONE);
        due("none again", x.wrong(0), 1);
    }

    private static void busy() {
        sentence("2 another NOTE of that finger lasts in some BEAT in which it does");
        GlassSpindle x = hands("");
        x.note(0, 5, 3, 1, 1);
        int[] due = {2, 2, 2, 0};
        for (int from = 5; from <= 8; from++) {
            x.note(3, from, 1, 1, 1);
            due("a beat in " + from, x.wrong(1), due[from - 5]);
            x.drop();
            x.note(0, from, 4, 1, 1);
            due("the same bowl from " + from, x.wrong(1), due[from - 5]);
            x.drop();
            x.note(3, from, 4, 1, 2);
            due("another finger", x.wrong(1), 0);
            x.drop();
        }
        x = hands("");
        x.note(0, 0, 9, 1, 1);
        x.note(1, 1, 1, 1, 2);
        due("not only of the note just before", x.note(2, 8, 1, 1, 1) == 2 && x.wrong(2) == 2, true);
    }

    private static void crosses() {
        sentence("3 it CROSSES: a lower finger and not a lower PLACE, or a higher finger and not a higher PLACE");
        GlassSpindle x = hands("set fingers 2;set reach 12;");
        int[] bowls = {5, 6, 7};
        for (int low = 0; low < 4; low++) {
            for (int high = low + 1; high < 4; high++) {
                for (int bowl : bowls) {
                    due("finger " + low + " at 6, " + high + " at " + bowl, second(x, 6, low, bowl, high), bowl > 6 ? 0 : 3);
                    due("finger " + high + " at 6, " + low + " at " + bowl, second(x, 6, high, bowl, low), bowl < 6 ? 0 : 3);
                }
            }
        }
        x.note(6, 0, 3, 1, 1);
        x.note(5, 2, 1, 1, 2);
        due("in the last beat", x.wrong(1), 3);
        x.drop();
        x.note(5, 3, 1, 1, 2);
        due("behind it", x.wrong(1), 0);
        GlassSpindle y = of("bowl a tone 1 size 1 wall 1;bowl b tone 1 size 1 wall 1;bowl c tone 1 size 1 wall 1 spare;");
        y.exchange(0, 2);
        due("by places, not by numbers of bowls", "" + second(y, 2, 0, 1, 1) + second(y, 1, 0, 2, 1), "03");
    }

    private static void reach() {
        sentence("4 one such of the same hand is at a PLACE farther than reach from its own");
        for (int reach = 1; reach <= 11; reach++) {
            GlassSpindle x = hands("set fingers 2;set reach " + reach + ";");
            due("just within reach " + reach, "" + second(x, 0, 0, reach, 1) + second(x, reach, 3, 0, 2), "00");
            if (reach < 11) {
                due("beyond reach " + reach, "" + second(x, 0, 0, reach + 1, 1) + second(x, reach + 1, 3, 0, 2), "44");
                due("two hands", "" + second(x, 0, 1, reach + 1, 2) + second(x, reach + 1, 3, 0, 0), "00");
            }
        }
        due("reach 12 is all", second(hands("set reach 12;"), 0, 0, 11, 1), 0);
        GlassSpindle x = hands("set reach 1;");
        x.note(0, 0, 2, 1, 0);
        x.note(2, 1, 1, 1, 1);
        due("in the last beat", x.wrong(1), 4);
        x.drop();
        x.note(2, 2, 1, 1, 1);
        due("behind it", x.wrong(1), 0);
    }

    private static void notesBefore() {
        sentence("WRONG by NOTES before it (by number, those with a finger)");
        GlassSpindle x = hands("set reach 1;");
        x.note(5, 0, 9, 1, 1);
        x.note(0, 0, 9, 1, 1);
        due("the second is, the first is not", "" + x.wrong(0) + x.wrong(1), "02");
        x.finger(0, NONE);
        due("the first has none now", "" + x.wrong(0) + x.wrong(1), "10");
        x.finger(0, 0);
        due("crosses", "" + x.wrong(0) + x.wrong(1), "03");
        x.finger(0, 1);
        x.finger(1, 0);
        due("too far", "" + x.wrong(0) + x.wrong(1), "04");
    }

    private static void firstThatHolds() {
        sentence("the first that holds");
        GlassSpindle x = hands("set fingers 3;set reach 1;set dry 9;");
        x.note(5, 0, 9, 1, 1);
        due("busy, ahead of dry", at(x, 5, 8, 1), 2);
        due("crosses, ahead of too far", at(x, 9, 8, 0), 3);
        due("too far", at(x, 9, 8, 2), 4);
        x.note(9, 0, 9, 1, 4);
        due("busy by the second, crosses by the first", at(x, 4, 8, 4), 2);
        due("busy by the first, crosses by the second", at(x, 10, 8, 1), 2);
        due("too far from the first, crosses by the second", at(x, 9, 8, 2), 3);
        due("crosses by the first, too far from the second", at(x, 5, 8, 3), 3);
        due("dry alone", at(x, 5, 9, 1), 5);
        x = hands("set reach 1;set dry 1;");
        x.note(5, 0, 1, 1, 0);
        x.note(5, 1, 1, 1, 1);
        due("crosses, ahead of dry", atLong(x, 8, 1, 2, 0), 3);
        x = hands("set reach 1;set dry 1;");
        x.note(5, 0, 1, 1, 0);
        due("too far, ahead of dry", atLong(x, 8, 0, 2, 1), 4);
        due("dry alone", atLong(x, 6, 0, 2, 1), 5);
    }

    private static int at(GlassSpindle x, int bowl, int from, int finger) {
        return atLong(x, bowl, from, 1, finger);
    }

    private static int atLong(GlassSpindle x, int bowl, int from, int length, int finger) {
        int answer = x.wrong(x.note(bowl, from, length, 1, finger));
        x.drop();
        return answer;
    }

    private static void wetAtFirst() {
        sentence("A finger is wet at first");
        GlassSpindle x = hands("set dry 5;set dip 20;");
        for (int finger = 0; finger < 4; finger++) {
            x.note(finger, 0, 5, 1, finger);
            due("finger " + finger, x.wrong(finger) + " " + x.speaks(finger), "0 5");
        }
        for (int finger = 0; finger < 4; finger++) {
            x.note(finger, 5, 1, 1, finger);
            due("finger " + finger + " is dry", x.wrong(4 + finger) + " " + x.speaks(4 + finger), "5 0");
        }
    }

    private static void dry() {
        sentence("DRY in a BEAT if, since it was wetted, it has touched for dry BEATS or more ahead of that BEAT");
        for (int dry : new int[] {1, 2, 39, 40}) {
            GlassSpindle x = hands("set dry " + dry + ";");
            x.note(0, 0, dry, 1, 0);
            due("as long as dry " + dry, x.wrong(0) + " " + x.speaks(0), "0 " + dry);
            if (dry < 40) {
                x.drop();
                x.note(0, 0, dry + 1, 1, 0);
                due("one longer than dry " + dry, x.wrong(0) + " " + x.speaks(0), "5 " + dry);
                due("in the last beat", "" + x.why(0, dry - 1) + x.why(0, dry), "03");
                x.finger(0, NONE);
                due("without a finger never", x.speaks(0), dry + 1);
            }
        }
        GlassSpindle x = hands("set dry 99;set dip 20;");
        x.note(0, 0, 40, 1, 0);
        x.note(0, 40, 40, 1, 0);
        x.note(0, 80, 20, 1, 0);
        due("99 beats in three notes", "" + x.wrong(0) + x.wrong(1) + x.wrong(2), "005");
        due("the 99th, the 100th", "" + x.why(2, 98) + x.why(2, 99), "03");
        x.drop();
        x.note(0, 80, 19, 1, 0);
        due("no more than 99", "" + x.wrong(2) + x.why(2, 98), "00");
        x = hands("");
        x.note(0, 0, 13, 1, 0);
        due("12 untold", "" + x.wrong(0) + x.why(0, 11) + x.why(0, 12), "503");
    }

    private static void dip() {
        sentence("is wetted whenever it rests for dip BEATS or more between two of its NOTES");
        for (int dip = 1; dip <= 20; dip++) {
            GlassSpindle x = hands("set dry 5;set dip " + dip + ";");
            x.note(0, 10, 5, 1, 0);
            x.note(1, 15 + dip - 1, 1, 1, 0);
            due("a rest of one less than dip " + dip, "" + x.wrong(1) + x.why(1, 15 + dip - 1), "53");
            x.drop();
            x.note(1, 15 + dip, 6, 1, 0);
            due("a rest of dip " + dip, "" + x.wrong(1) + x.speaks(1), "55");
            x.drop();
            x.note(1, 15 + dip, 5, 1, 0);
            due("a rest of dip " + dip + ", then dry beats", "" + x.wrong(1) + x.speaks(1), "05");
            x.note(1, 20 + 2 * dip, 5, 1, 0);
            due("and again", "" + x.wrong(2) + x.speaks(2), "05");
            x.drop();
            x.drop();
            x.note(1, 199, 1, 1, 0);
            due("a long rest", "" + x.wrong(1) + x.speaks(1), "01");
        }
        GlassSpindle x = hands("set dry 5;");
        x.note(0, 0, 5, 1, 0);
        x.note(0, 6, 1, 1, 0);
        x.note(0, 9, 1, 1, 0);
        due("2 untold", "" + x.wrong(1) + x.wrong(2), "50");
    }

    private static void dipByNumber() {
        sentence("(from the end of the one before by number to the beginning)");
        GlassSpindle x = hands("set dry 5;set dip 3;");
        x.note(0, 0, 3, 1, 0);
        x.note(1, 4, 1, 1, 1);
        x.note(0, 5, 3, 1, 0);
        due("notes of other fingers don't break the rest", "" + x.wrong(2) + x.speaks(2), "52");
        x.drop();
        x.note(0, 6, 3, 1, 0);
        due("a rest of 3 between its own", "" + x.wrong(2) + x.speaks(2), "03");
        x = hands("set dry 5;set dip 3;");
        x.note(0, 0, 9, 1, 0);
        x.note(1, 2, 1, 1, 0);
        x.note(1, 6, 1, 1, 0);
        due("the one before by number ends at 3, though another lasts", x.why(2, 6), 0);
        x.drop();
        x.note(1, 5, 1, 1, 0);
        due("2 beats behind its end", x.why(2, 5), 3);
    }

    private static void dryByNumber() {
        sentence("(its NOTES by number, each from its own beginning)");
        GlassSpindle x = hands("set dry 5;set dip 20;");
        x.note(0, 0, 2, 1, 0);
        x.note(1, 2, 2, 1, 0);
        x.note(2, 5, 3, 1, 0);
        due("2 and 2 and 1", "" + x.why(2, 5) + x.why(2, 6) + x.why(2, 7) + x.wrong(2), "0335");
        x.finger(1, 1);
        due("another finger's beats don't count", "" + x.speaks(2) + x.wrong(2), "30");
        x.finger(1, NONE);
        due("nor those of none", "" + x.speaks(2) + x.wrong(2), "30");
        x.note(2, 8, 9, 1, 0);
        due("nor those of notes behind", "" + x.speaks(2) + x.wrong(2), "30");
    }

    private static void wrongWhere() {
        sentence("What is WRONG with a NOTE's finger (0: nothing); NONE: none such");
        GlassSpindle x = hands("");
        due("no notes", x.wrong(0), NONE);
        x.note(0, 0, 1, 1, 0);
        due("nothing", x.wrong(0), 0);
        for (int note : new int[] {LOWEST, -1, 1, 24, HIGHEST}) {
            due("note " + note, x.wrong(note), NONE);
        }
        x.drop();
        due("dropped", x.wrong(0), NONE);
    }

    private static void judged() {
        sentence("The first NOTE that is WRONG; NONE: none");
        GlassSpindle x = hands("");
        due("no notes", x.judged(), NONE);
        for (int i = 0; i < 24; i++) {
            x.note(0, 3 * i, 1, 1, 0);
        }
        due("none is", x.judged(), NONE);
        x.finger(23, NONE);
        due("the last one", x.judged(), 23);
        x.finger(7, NONE);
        due("the first of two", x.judged(), 7);
        x.finger(0, NONE);
        due("the first one", x.judged(), 0);
        x.finger(0, 0);
        x.finger(7, 0);
        x.drop();
        due("none is", x.judged(), NONE);
    }

    private static void lifts() {
        sentence("LIFTS: NOTES but for those whose finger's NOTE before is of the same BOWL and ends just as they begin");
        GlassSpindle x = hands("");
        due("no notes", x.lifts(), 0);
        x.note(0, 0, 3, 1, 0);
        due("the first one", x.lifts(), 1);
        int[] froms = {2, 3, 4};
        int[] due = {2, 1, 2};
        for (int i = 0; i < froms.length; i++) {
            x.note(0, froms[i], 1, 1, 0);
            due("from " + froms[i], x.lifts(), due[i]);
            x.drop();
        }
        x.note(1, 3, 1, 1, 0);
        due("another bowl", x.lifts(), 2);
        x.drop();
        x.note(0, 3, 1, 1, 1);
        due("another finger", x.lifts(), 2);
        x.drop();
        x.note(0, 3, 1, 1, NONE);
        due("none", x.lifts(), 2);
        x.finger(0, NONE);
        due("both none: those without one count", x.lifts(), 2);
        x = hands("");
        for (int i = 0; i < 24; i++) {
            x.note(0, i, 1, 1, 3);
        }
        due("24 without a lift but the first", x.lifts(), 1);
        x.drop();
        x.finger(11, NONE);
        due("one has none, and the next one's before ends earlier", x.lifts(), 3);
    }

    private static void liftsByNumber() {
        sentence("whose finger's NOTE before (by number)");
        GlassSpindle x = hands("");
        x.note(0, 0, 3, 1, 0);
        x.note(1, 0, 3, 1, 1);
        x.note(0, 3, 1, 1, 0);
        x.note(1, 3, 1, 1, 1);
        due("two fingers side by side", x.lifts(), 2);
        x = hands("");
        x.note(0, 0, 3, 1, 0);
        x.note(1, 1, 1, 1, 0);
        x.note(0, 3, 1, 1, 0);
        due("another one of the finger between", x.lifts(), 3);
        x.finger(1, 2);
        due("of another finger between", x.lifts(), 2);
        GlassSpindle y = of("bowl a tone 1 size 1 wall 1;bowl b tone 1 size 1 wall 1 spare;");
        y.note(0, 0, 1, 1, 0);
        y.exchange(0, 1);
        y.note(1, 1, 1, 1, 0);
        due("the note has gone to the same bowl", y.lifts(), 1);
    }

    private static void fewest() {
        sentence("FEWEST: of all fingerings of all NOTES in which none is WRONG the fewest LIFTS; NONE: not at all");
        GlassSpindle x = hands("set fingers 1;set dry 4;set dip 20;");
        due("no notes", x.fewest(), 0);
        x.note(0, 0, 4, 1, NONE);
        due("one, as long as dry", "" + x.fewest() + x.fingered(0), "10");
        x.note(0, 4, 4, 1, NONE);
        due("two fingers", "" + x.fewest() + x.fingered(0) + x.fingered(1), "201");
        x.note(0, 8, 1, 1, NONE);
        due("both are dry", "" + x.fewest() + x.fingered(0) + x.fingered(1) + x.fingered(2), "-1-1-1-1");
        x.drop();
        x.note(0, 24, 1, 1, NONE);
        due("the first has rested for 20", "" + x.fewest() + x.fingered(2), "30");
        x.drop();
        x.note(0, 23, 1, 1, NONE);
        due("for 19", x.fewest(), NONE);
        x = hands("set fingers 1;");
        x.note(0, 0, 13, 1, NONE);
        due("longer than dry", x.fewest(), NONE);
        x = hands("set fingers 1;");
        x.note(0, 0, 1, 1, NONE);
        x.note(0, 0, 1, 1, NONE);
        due("one bowl twice at once", x.fewest(), NONE);
        x = hands("set fingers 3;set reach 12;");
        for (int i = 0; i < 6; i++) {
            x.note(i, 0, 1, 1, NONE);
        }
        due("six at once", "" + x.fewest() + x.fingered(5), "65");
        x.note(6, 0, 1, 1, NONE);
        due("seven at once", x.fewest(), NONE);
        x = hands("set fingers 2;set reach 3;");
        x.note(0, 0, 1, 1, NONE);
        x.note(3, 0, 1, 1, NONE);
        x.note(11, 0, 1, 1, NONE);
        due("one hand reaches 3", "" + x.fewest() + x.fingered(0) + x.fingered(1) + x.fingered(2), "3012");
        x = hands("set fingers 2;set reach 2;");
        x.note(0, 0, 1, 1, NONE);
        x.note(3, 0, 1, 1, NONE);
        x.note(11, 0, 1, 1, NONE);
        due("no hand reaches 3", x.fewest(), NONE);
    }

    private static void fewestOfEqual() {
        sentence("of equal ones the least fingers from NOTE 0 on");
        GlassSpindle x = hands("set fingers 2;set dry 4;set dip 20;");
        x.note(0, 0, 2, 1, 3);
        x.note(1, 2, 2, 1, 3);
        x.note(2, 4, 2, 1, 3);
        due("the first finger for two, the next for the third", "" + x.fewest() + x.fingered(0) + x.fingered(1) + x.fingered(2), "3001");
        x = hands("set fingers 2;set dry 4;set dip 20;");
        x.note(0, 0, 2, 1, NONE);
        x.note(1, 2, 2, 1, NONE);
        x.note(1, 4, 2, 1, NONE);
        due("fewer lifts come first", "" + x.fewest() + x.fingered(0) + x.fingered(1) + x.fingered(2), "2011");
        x.note(5, 30, 1, 1, NONE);
        due("with a fourth one", "" + x.fewest() + x.fingered(0) + x.fingered(1) + x.fingered(2) + x.fingered(3), "30110");
        x.drop();
        due("without it again", "" + x.fewest() + x.fingered(0) + x.fingered(1) + x.fingered(2), "2011");
        x = hands("set fingers 2;");
        x.note(3, 0, 2, 1, NONE);
        x.note(2, 1, 2, 1, NONE);
        due("room for a lower place", "" + x.fewest() + x.fingered(0) + x.fingered(1), "210");
        due("the fingers told stay", "" + x.noteOf(0, 4) + x.noteOf(1, 4), "-1-1");
    }

    /** One bowl without a rest, dip 20: a finger goes on until it would be dry, another one goes on from there. */
    private static void fewestOnOneBowl() {
        sentence("FEWEST: the fewest LIFTS, where fingers go on until they are DRY");
        int[][] lengths = {{2, 2, 2, 2}, {3, 3, 3, 3}, {3, 2, 3, 2}, {4, 4, 1, 1, 1, 2}, {1, 1, 1, 1, 1, 1, 1, 1}, {5, 5, 5, 5}, {1, 4, 4, 1, 1, 4}, {5, 5, 5, 5, 1}};
        String[] due = {"2 0011", "4 0123", "2 0011", "3 011222", "2 00000111", "4 0123", "3 001122", "-1 -1-1-1-1-1"};
        for (int i = 0; i < lengths.length; i++) {
            GlassSpindle x = hands("set dry 5;set dip 20;");
            int from = 0;
            for (int length : lengths[i]) {
                x.note(4, from, length, 1, NONE);
                from += length;
            }
            StringBuilder s = new StringBuilder().append(x.fewest()).append(' ');
            for (int note = 0; note < lengths[i].length; note++) {
                s.append(x.fingered(note));
            }
            due("row " + i, s.toString(), due[i]);
        }
    }

    private static void fewestAtMost() {
        sentence("FEWEST: of all NOTES (8 at most); NONE: more than 8 NOTES");
        GlassSpindle x = hands("");
        for (int i = 0; i < 8; i++) {
            x.note(0, i, 1, 1, NONE);
            due("notes " + (i + 1), "" + x.fewest() + x.fingered(i), "10");
        }
        x.note(0, 8, 1, 1, NONE);
        due("9 notes", "" + x.fewest() + x.fingered(0) + x.fingered(8), "-1-1-1");
        for (int i = 9; i < 24; i++) {
            x.note(0, i, 1, 1, NONE);
        }
        due("24 notes", "" + x.fewest() + x.fingered(0), "-1-1");
        for (int i = 0; i < 16; i++) {
            x.drop();
        }
        due("8 again", "" + x.fewest() + x.fingered(7) + x.fingered(8), "10-1");
    }

    private static void fingered() {
        sentence("The finger of a NOTE by it; NONE: others, likewise");
        GlassSpindle x = hands("");
        due("no notes", "" + x.fingered(0) + x.fingered(-1), "-1-1");
        x.note(0, 0, 2, 1, NONE);
        x.note(1, 0, 2, 1, NONE);
        due("both", "" + x.fingered(0) + x.fingered(1), "01");
        for (int note : new int[] {LOWEST, -1, 2, 7, 8, HIGHEST}) {
            due("note " + note, x.fingered(note), NONE);
        }
        x.note(1, 0, 2, 1, NONE);
        due("not at all", "" + x.fingered(0) + x.fingered(1) + x.fingered(2), "-1-1-1");
    }

    private static void far() {
        sentence("FAR: the most first NOTES for which there is such a one");
        GlassSpindle x = hands("set fingers 1;set dry 4;set dip 20;");
        due("no notes", x.far(), 0);
        x.note(0, 0, 5, 1, NONE);
        due("not even the first", x.far(), 0);
        x.note(0, 5, 1, 1, NONE);
        due("none behind it", x.far(), 0);
        x.drop();
        x.drop();
        x.note(0, 0, 3, 1, NONE);
        x.note(0, 3, 3, 1, NONE);
        x.note(0, 6, 1, 1, NONE);
        x.note(0, 7, 1, 1, NONE);
        due("all of four", x.far(), 4);
        x.note(0, 8, 1, 1, NONE);
        due("four of five", x.far(), 4);
        x.note(5, 150, 1, 1, NONE);
        due("no matter what comes", x.far(), 4);
        x = hands("set fingers 1;set dry 4;set dip 20;");
        x.note(0, 0, 2, 1, NONE);
        x.note(0, 2, 2, 1, NONE);
        x.note(0, 4, 2, 1, NONE);
        x.note(0, 6, 2, 1, NONE);
        x.note(5, 7, 1, 1, NONE);
        due("four of five, as both are worn", x.far(), 4);
        x = hands("set fingers 1;set dry 9;");
        x.note(5, 0, 5, 1, NONE);
        x.note(6, 1, 5, 1, NONE);
        x.note(7, 2, 5, 1, NONE);
        due("three at once with two fingers", x.far(), 2);
        x = hands("set fingers 1;set dry 9;");
        x.note(5, 0, 5, 1, NONE);
        x.note(5, 4, 5, 1, NONE);
        due("one bowl twice", x.far(), 1);
        due("fewest, then", x.fewest(), NONE);
    }

    private static void farAtMost() {
        sentence("FAR; NONE: more than 8 NOTES");
        GlassSpindle x = hands("set dry 4;set dip 20;set fingers 2;");
        for (int i = 0; i < 8; i++) {
            x.note(i, 2 * i, 2, 1, NONE);
            due("notes " + (i + 1), x.far(), i + 1);
        }
        x.note(0, 16, 2, 1, NONE);
        due("9 notes", x.far(), NONE);
        x.drop();
        due("8 again", x.far(), 8);
    }
}
