import java.util.ArrayList;
import java.util.List;
import java.util.NoSuchElementException;
import java.util.Random;

/** Runs of random calls, each answer held against the one of SlowSpindle. Arguments: first seed, number of runs. */
public final class RandomRuns {
    private static final String THROWN = "NoSuchElementException";
    /** Small numbers of these make all runs alike: all is cracked, nothing rings along. */
    private static final List<String> WIDE = List.of("crack", "along", "treadle");
    private final Random random;
    private final long seed;
    private GlassSpindle fast = new GlassSpindle();
    private SlowSpindle slow = new SlowSpindle();
    private final List<String> trail = new ArrayList<>();

    private RandomRuns(long seed) {
        this.seed = seed;
        this.random = new Random(seed);
    }

    public static void main(String[] args) {
        long first = args.length > 0 ? Long.parseLong(args[0]) : 1;
        int runs = args.length > 1 ? Integer.parseInt(args[1]) : 300;
        int wrong = 0;
        for (long seed = first; seed < first + runs; seed++) {
            wrong += new RandomRuns(seed).run() ? 0 : 1;
        }
        System.out.println("random runs: " + runs + ", wrong: " + wrong);
        if (wrong != 0) {
            System.exit(1);
        }
    }

    private int to(int most) { return random.nextInt(most + 1); }
    private int in(int least, int most) { return least + random.nextInt(most - least + 1); }
    private boolean chance(int percent) { return random.nextInt(100) < percent; }
    private String pick(String... of) { return of[random.nextInt(of.length)]; }

    // ---- texts

    private String blanks() { return pick(" ", " ", " ", "\n", "  "); }

    private String expression(int depth) {
        StringBuilder s = new StringBuilder(test(depth));
        while (chance(30)) s.append(blanks()).append(pick("and", "or")).append(blanks()).append(test(depth));
        return s.toString();
    }
    private String test(int depth) { return chance(60) ? sum(depth) + pick("<", "=", "<") + sum(depth) : sum(depth); }
    private String sum(int depth) {
        StringBuilder s = new StringBuilder(product(depth));
        while (chance(25)) s.append(pick("+", "-")).append(product(depth));
        return s.toString();
    }
    private String product(int depth) {
        StringBuilder s = new StringBuilder(part(depth));
        while (chance(20)) s.append("*").append(part(depth));
        return s.toString();
    }
    private String part(int depth) {
        if (depth < (chance(3) ? 6 : 4) && chance(25)) return chance(50) ? "not " + part(depth + 1) : "(" + expression(depth + 1) + ")";
        return chance(50) ? pick("speed", "press", "heat", "touch", "wall") : "" + (chance(50) ? to(9) : chance(60) ? to(200) : to(9999));
    }

    private String text(int style) {
        StringBuilder s = new StringBuilder();
        List<String> names = new ArrayList<>();
        int bowls = style == 0 ? in(1, 5) : chance(5) ? 13 : in(2, 12);
        boolean alike = chance(60);
        int base = in(1, chance(20) ? 30 : 3000);
        for (int i = 0; i < bowls; i++) {
            String name = pick("a", "b", "c", "speed", "press", "heat", "touch", "x", "y") + (char) ('a' + i);
            if (chance(20)) name = pick("speed", "press", "heat", "touch", "q", "abcdefgh");
            if (names.contains(name)) name = "n" + (char) ('a' + i);
            names.add(name);
            int tone = Math.max(1, Math.min(9999, alike ? base + in(-10, 10) : in(1, 9999)));
            s.append("bowl").append(blanks()).append(name).append(" tone ").append(tone).append(" size ").append(in(1, chance(50) ? 9 : 99))
                .append(" wall ").append(in(1, chance(70) ? 4 : 20)).append(chance(40) ? pick(" rimmed", " gilt", " spare") : "").append(";");
        }
        if (names.size() > 1) {
            for (int i = chance(3) ? 9 : to(8); i > 0; i--) {
                int a = to(names.size() - 1), b = to(names.size() - 1);
                if (a == b && chance(99)) b = (a + 1) % names.size();
                int p = in(1, chance(50) ? 1 : chance(80) ? 3 : 20), q = chance(70) ? p : in(1, 20);
                s.append("pair ").append(names.get(a)).append(" ").append(p).append(blanks()).append(names.get(b)).append(" ").append(q)
                    .append(" within ").append(chance(60) ? to(15) : chance(50) ? to(200) : to(9999)).append(";");
            }
        }
        for (int i = chance(3) ? 5 : chance(50) ? 0 : in(1, 3); i > 0; i--) s.append("speak ").append(expression(0)).append(";");
        for (int i = 0; i < 11; i++) {
            if (chance(35)) {
                int high = SlowSpindle.HIGH[i], low = SlowSpindle.LOW[i];
                boolean small = chance(WIDE.contains(SlowSpindle.WHATS.get(i)) ? 20 : 80);
                s.append("set ").append(SlowSpindle.WHATS.get(i)).append(" ").append(small ? in(low, Math.min(high, low + 6)) : in(low, high)).append(";").append(chance(20) ? "\n" : "");
            }
        }
        if (chance(10)) spoil(s);
        if (style > 2) s = new StringBuilder(focused(style));
        return s.toString();
    }

    /** Style 3: pairs that some grinding mends; 4: hands that some fingering saves; 5: bowls that speak and ring. */
    private String focused(int style) {
        StringBuilder s = new StringBuilder();
        int bowls = style == 3 ? in(2, 9) : in(2, 8), tone = chance(20) ? 4 : chance(20) ? 9994 : in(50, 900);
        for (int i = 0; i < bowls; i++)
            s.append("bowl ").append((char) ('a' + i)).append(" tone ").append(tone + in(-3, 4)).append(" size ").append(in(1, chance(70) ? 4 : 99))
                .append(" wall ").append(in(1, 20)).append(chance(15) ? pick(" spare", " rimmed", " gilt") : "").append(";");
        int beat = in(0, 5);
        for (int i = style == 3 ? in(2, 8) : 1; i > 0; i--) {
            int a = to(bowls - 1), b = (a + in(1, bowls - 1)) % bowls, p = chance(80) ? 1 : in(1, 20);
            s.append("pair ").append((char) ('a' + a)).append(" ").append(p).append(" ").append((char) ('a' + b)).append(" ").append(p)
                .append(" within ").append(p * (chance(70) ? to(beat) : to(9))).append(";");
        }
        if (style == 3) return s.append("set grind ").append(in(1, 3)).append(";").toString();
        s.append("set fingers ").append(in(1, 3)).append(";set dry ").append(in(4, 20)).append(";set dip ").append(in(1, 5)).append(";set reach ").append(in(1, 6)).append(";");
        if (style == 4) return s.toString();
        s.append("set soon ").append(to(2)).append(";set crack ").append(in(1, 60)).append(";set along ").append(to(9)).append(";");
        for (int i = to(2); i > 0; i--) s.append("speak ").append(expression(0)).append(chance(50) ? " or touch<" + to(9) : "").append(";");
        return s.toString();
    }

    private int focusedCall(int style) {
        return style == 3 ? pickOf(20, 21, 22, 22, 22) : style == 4 ? pickOf(13, 14, 15, 16, 17, 18, 19) : style == 5 ? pickOf(5, 7, 8, 9, 9, 10, 11, 12) : to(26);
    }
    private int pickOf(int... of) { return of[random.nextInt(of.length)]; }

    private void spoil(StringBuilder s) {
        for (int i = in(1, 2); i > 0 && s.length() > 0; i--) {
            int at = random.nextInt(s.length());
            switch (to(4)) {
                case 0: s.deleteCharAt(at); break;
                case 1: s.insert(at, pick("0", "a", ";", " ", ")", "(", "not ", "9999", "#", "A", " set warm 3;", "bowl", "12345", "abcdefghi", "=", "-")); break;
                case 2: s.setLength(at); break;
                case 3: s.setCharAt(at, (char) in(32, 126)); break;
                default: s.append(pick("set dry 3;set dry 4;", "set reach 13;", "speak ((((((1))))));", "speak (((((1)))));", "speak ((((1))));",
                    "speak not not not not not 1;", "speak not not not not not not 1;", "speak not(not(not(1)));", "pair", "bowl", "set", "speak", "  ")); break;
            }
        }
    }

    private boolean feed(String text) {
        for (int i = 0; i < text.length(); i += 24) {
            long[] l = new long[3];
            for (int j = 0; j < 24; j++) {
                int c = i + j < text.length() ? text.charAt(i + j) : chance(50) ? 0 : in(127, 255);
                l[j / 8] = l[j / 8] << 8 | c;
            }
            if (!same("feed " + l[0] + " " + l[1] + " " + l[2], fast.feed(l[0], l[1], l[2]), slow.feed(l[0], l[1], l[2]))) return false;
        }
        return true;
    }

    // ---- calls

    private boolean same(String call, Object got, Object due) {
        trail.add(call + " = " + due);
        if (got.equals(due)) return true;
        System.out.println("seed " + seed + ": " + call + " answered " + got + ", due is " + due + "; tape of the trail:");
        trail.forEach(t -> System.out.println("  " + t));
        return false;
    }

    private boolean run() {
        int style = to(5);
        String text = text(style);
        trail.add(text);
        if (!feed(text) || !same("spindle", fast.spindle(), slow.spindle())) return false;
        int most = style == 0 || style == 4 ? 8 : chance(50) ? 10 : 24;
        for (int i = 0; i < 150; i++) {
            if (chance(1)) {
                String t = text(style);
                trail.add(t);
                if (!feed(t) || !same("spindle", fast.spindle(), slow.spindle())) return false;
            }
            if (!(chance(25) ? change(most) : ask(chance(80) ? focusedCall(style) : to(26)))) return false;
        }
        return faults();
    }

    /** Texts that mostly are none, one after the other. */
    private boolean faults() {
        for (int i = 0; i < 10; i++) {
            StringBuilder s = new StringBuilder(text(to(5)));
            spoil(s);
            trail.add(s.toString());
            if (!feed(s.toString()) || !same("spindle", fast.spindle(), slow.spindle())) return false;
        }
        return true;
    }

    private int number(int most) { return chance(4) ? pick("a", "b").equals("a") ? -1 : most + 1 + to(3) : chance(2) ? random.nextInt() : to(Math.max(0, most)); }
    private int someBowl() { return number(slow.s.bowls.size() - 1); }
    private int someNote() { return number(slow.s.notes.size() - 1); }
    private int someFinger() { return chance(10) ? -1 : number(2 * slow.set("fingers") - 1); }
    private int someBeat() {
        if (slow.s.notes.isEmpty() || chance(10)) return number(199);
        SlowSpindle.Note n = slow.s.notes.get(random.nextInt(slow.s.notes.size()));
        return in(n.from, n.end());
    }

    private boolean change(int most) {
        if (slow.s.notes.size() < most && chance(70)) {
            int last = slow.s.notes.isEmpty() ? to(5) : slow.s.notes.get(slow.s.notes.size() - 1).from;
            if (!slow.s.notes.isEmpty() && chance(40)) last = slow.s.notes.get(slow.s.notes.size() - 1).end();
            if (chance(15)) last += 5;
            int from = last + (chance(50) ? 0 : to(chance(80) ? 3 : 30)) - (chance(3) ? 1 : 0);
            int length = chance(90) ? in(1, 6) : number(41), press = chance(95) ? in(1, chance(50) ? 2 : 9) : number(10), bowl = someBowl(), finger = someFinger();
            return same("note " + bowl + " " + from + " " + length + " " + press + " " + finger,
                fast.note(bowl, from, length, press, finger), slow.note(bowl, from, length, press, finger));
        }
        int a, b;
        switch (to(5)) {
            case 0: return same("drop", fast.drop(), slow.drop());
            case 1: case 2: a = someNote(); b = someFinger(); return same("finger " + a + " " + b, fast.finger(a, b), slow.finger(a, b));
            case 3: a = someBowl(); b = chance(70) ? slow.spare(a) : someBowl(); return same("exchange " + a + " " + b, fast.exchange(a, b), slow.exchange(a, b));
            default: a = number(3); boolean back = chance(40); return same("mark " + a + " " + back, fast.mark(a, back), slow.mark(a, back));
        }
    }

    private boolean ask(int call) {
        int a, b;
        switch (call) {
            case 0: a = someBowl(); b = number(4); return same("bowl " + a + " " + b, fast.bowl(a, b), slow.bowl(a, b));
            case 1: a = someNote(); b = number(4); return same("noteOf " + a + " " + b, fast.noteOf(a, b), slow.noteOf(a, b));
            case 2: a = someBowl(); b = someBeat(); return same("touched " + a + " " + b, fast.touched(a, b), slow.touched(a, b));
            case 3: a = someBowl(); b = someBeat(); return same("warmth " + a + " " + b, fast.warmth(a, b), slow.warmth(a, b));
            case 4: a = someBowl(); return same("cracked " + a, fast.cracked(a), slow.cracked(a));
            case 5: case 6: return why();
            case 7: a = someNote(); return same("speaks " + a, fast.speaks(a), slow.speaks(a));
            case 8: a = someBeat(); return same("sounds " + a, fast.sounds(a), slow.sounds(a));
            case 9: a = someBeat(); return same("along " + a, fast.along(a), slow.along(a));
            case 10: a = chance(50) ? 0 : someBeat(); b = number(2); return same("silence " + a + " " + b, fast.silence(a, b), slow.silence(a, b));
            case 11: a = number(1); return same("best " + a, fast.best(a), slow.best(a));
            case 12: a = number(99); return same("atTreadle " + a, fast.atTreadle(a), slow.atTreadle(a));
            case 13: case 14: a = someNote(); return same("wrong " + a, fast.wrong(a), slow.wrong(a));
            case 15: return same("judged", fast.judged(), slow.judged());
            case 16: return same("lifts", fast.lifts(), slow.lifts());
            case 17: return chance(40) || same("fewest", fast.fewest(), slow.fewest());
            case 18: a = someNote(); return chance(40) || same("fingered " + a, fast.fingered(a), slow.fingered(a));
            case 19: return chance(40) || same("far", fast.far(), slow.far());
            case 20: a = number(slow.s.pairs.size() - 1); return same("beating " + a, fast.beating(a), slow.beating(a));
            case 21: return same("within", fast.within(), slow.within());
            case 22: return same("ground", fast.ground(), slow.ground()) && groundOf();
            case 23: a = someBowl(); return same("spare " + a, fast.spare(a), slow.spare(a));
            case 24: return same("moved", fast.moved(), slow.moved());
            case 25: a = number(8); return chance(60) || same("order", fast.order(), slow.order()) && same("ordered " + a, fast.ordered(a), slow.ordered(a));
            default: a = number(16); return same("count " + a, fast.count(a), slow.count(a));
        }
    }

    private boolean why() {
        int a = someNote();
        SlowSpindle.Note n = slow.n(a);
        int b = n == null || chance(10) ? someBeat() : in(n.from, n.end() - 1);
        Object got, due;
        try { got = fast.why(a, b); } catch (NoSuchElementException e) { got = THROWN; }
        try { due = slow.why(a, b); } catch (NoSuchElementException e) { due = THROWN; }
        return same("why " + a + " " + b, got, due);
    }

    private boolean groundOf() {
        int a = someBowl();
        Object got, due;
        try { got = fast.groundOf(a); } catch (NoSuchElementException e) { got = THROWN; }
        try { due = slow.groundOf(a); } catch (NoSuchElementException e) { due = THROWN; }
        return same("groundOf " + a, got, due);
    }
}
