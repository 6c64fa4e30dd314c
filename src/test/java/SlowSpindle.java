import java.util.ArrayList;
import java.util.Arrays;
import java.util.List;
import java.util.NoSuchElementException;
import java.util.Set;

/** The document once more, in the plainest form and by trying out all there is; random runs are held against it. */
final class SlowSpindle {
    static final List<String> WHATS = List.of("treadle", "fingers", "reach", "soon", "dry", "dip", "warm", "cool", "crack", "along", "grind");
    static final int[] LOW = {1, 1, 1, 0, 1, 1, 0, 0, 1, 0, 1};
    static final int[] HIGH = {99, 3, 12, 9, 99, 20, 99, 99, 999, 999, 99};
    static final int[] UNTOLD = {10, 2, 4, 1, 12, 2, 3, 1, 5, 0, 1};
    static final Set<String> RESERVED = Set.of("bowl", "tone", "size", "wall", "rimmed", "gilt", "spare", "pair", "within", "speak", "set",
        "treadle", "fingers", "reach", "soon", "dry", "dip", "warm", "cool", "crack", "along", "grind", "not", "and", "or");

    interface Expr { int of(int speed, int press, int heat, int touch, int wall); }
    static final class Bowl { String name; int tone, size, wall, kind, place; Bowl copy() { Bowl b = new Bowl(); b.name = name; b.tone = tone; b.size = size; b.wall = wall; b.kind = kind; b.place = place; return b; } }
    record Pair(int a, int p, int b, int q, int within) { }
    static final class Note { int bowl, from, length, press, finger; int end() { return from + length; } boolean lasts(int t) { return t >= from && t < end(); }
        boolean meets(Note o) { for (int t = from; t < end(); t++) if (o.lasts(t)) return true; return false; }
        Note copy() { Note n = new Note(); n.bowl = bowl; n.from = from; n.length = length; n.press = press; n.finger = finger; return n; } }
    static final class State {
        List<Bowl> bowls = new ArrayList<>(); List<Pair> pairs = new ArrayList<>(); List<Expr> speaks = new ArrayList<>(); int[] set = UNTOLD.clone(); List<Note> notes = new ArrayList<>();
        State copy() { State s = new State(); for (Bowl b : bowls) s.bowls.add(b.copy()); s.pairs.addAll(pairs); s.speaks.addAll(speaks); s.set = set.clone(); for (Note n : notes) s.notes.add(n.copy()); return s; }
    }
    State s = new State();
    State[] marks = new State[4];
    StringBuilder tape = new StringBuilder();

    int set(String what) { return s.set[WHATS.indexOf(what)]; }

    int feed(long... longs) {
        for (long l : longs) for (int i = 7; i >= 0; i--) {
            char c = (char) (l >> (8 * i) & 0xff);
            if ((c == '\n' || c >= ' ' && c <= '~') && tape.length() < 1000) tape.append(c);
        }
        return tape.length();
    }

    // ---- the language

    static final class Fault extends Exception { private static final long serialVersionUID = 1; final int code; Fault(int kind, int place) { code = kind + 16 * place; } }
    record Token(String text, int place, char kind) { } // kinds: w word, n number, s sign, b none, e end

    final class Parser {
        final List<Token> tokens = new ArrayList<>();
        int i;
        State out = new State();
        boolean[] told = new boolean[11];

        Parser(String text) {
            java.util.regex.Matcher m = java.util.regex.Pattern.compile("[a-z]+|[0-9]+|[^ \n]").matcher(text);
            while (m.find()) {
                String t = m.group();
                char c = t.charAt(0);
                char kind = c >= 'a' && c <= 'z' ? (t.length() <= 8 ? 'w' : 'b') : c >= '0' && c <= '9' ? (t.length() <= 4 ? 'n' : 'b') : "()<=+-*;".contains(t) ? 's' : 'b';
                tokens.add(new Token(t, m.start(), kind));
            }
            tokens.add(new Token("", text.length(), 'e'));
        }
        Token t() { return tokens.get(i); }
        Fault bad(int kind) { return new Fault(kind, t().place()); }
        boolean is(String text) { return (t().kind() == 'w' || t().kind() == 's') && t().text().equals(text); }
        void take(String text) throws Fault { if (!is(text)) throw bad(1); i++; }
        int num(int low, int high) throws Fault {
            if (t().kind() != 'n') throw bad(1);
            int v = Integer.parseInt(t().text());
            if (v < low || v > high) throw bad(4);
            i++;
            return v;
        }
        String name() throws Fault { if (t().kind() != 'w' || RESERVED.contains(t().text())) throw bad(1); return t().text(); }
        int named(String name) { for (int b = 0; b < out.bowls.size(); b++) if (out.bowls.get(b).name.equals(name)) return b; return -1; }
        void all() throws Fault {
            while (t().kind() != 'e') {
                if (is("bowl")) {
                    if (out.bowls.size() == 12) throw bad(5);
                    i++;
                    Bowl b = new Bowl();
                    b.name = name();
                    if (named(b.name) >= 0) throw bad(3);
                    i++;
                    take("tone"); b.tone = num(1, 9999); take("size"); b.size = num(1, 99); take("wall"); b.wall = num(1, 20);
                    for (int k = 1; k <= 3; k++) if (b.kind == 0 && is(List.of("", "rimmed", "gilt", "spare").get(k))) { b.kind = k; i++; }
                    take(";");
                    b.place = b.kind == 3 ? -1 : (int) out.bowls.stream().filter(o -> o.kind != 3).count();
                    out.bowls.add(b);
                } else if (is("pair")) {
                    if (out.pairs.size() == 8) throw bad(5);
                    i++;
                    int a = named(name()); if (a < 0) throw bad(2); i++;
                    int p = num(1, 20);
                    int b = named(name()); if (b < 0) throw bad(2); if (a == b) throw bad(3); i++;
                    int q = num(1, 20);
                    take("within"); int w = num(0, 9999); take(";");
                    out.pairs.add(new Pair(a, p, b, q, w));
                } else if (is("speak")) {
                    if (out.speaks.size() == 4) throw bad(5);
                    i++;
                    out.speaks.add(e(0));
                    take(";");
                } else if (is("set")) {
                    i++;
                    int w = t().kind() == 'w' ? WHATS.indexOf(t().text()) : -1;
                    if (w < 0) throw bad(1);
                    if (told[w]) throw bad(3);
                    told[w] = true;
                    i++;
                    out.set[w] = num(LOW[w], HIGH[w]);
                    take(";");
                } else throw bad(1);
            }
        }
        Expr e(int d) throws Fault {
            Expr x = test(d);
            while (is("and") || is("or")) {
                boolean and = is("and"); i++;
                Expr l = x, r = test(d);
                x = (a, b, c, f, g) -> { boolean y = l.of(a, b, c, f, g) != 0, z = r.of(a, b, c, f, g) != 0; return (and ? y && z : y || z) ? 1 : 0; };
            }
            return x;
        }
        Expr test(int d) throws Fault {
            Expr l = sum(d);
            if (is("<")) { i++; Expr r = sum(d); return (a, b, c, f, g) -> l.of(a, b, c, f, g) < r.of(a, b, c, f, g) ? 1 : 0; }
            if (is("=")) { i++; Expr r = sum(d); return (a, b, c, f, g) -> l.of(a, b, c, f, g) == r.of(a, b, c, f, g) ? 1 : 0; }
            return l;
        }
        Expr sum(int d) throws Fault {
            Expr x = product(d);
            while (is("+") || is("-")) {
                int sign = is("+") ? 1 : -1; i++;
                Expr l = x, r = product(d);
                x = (a, b, c, f, g) -> l.of(a, b, c, f, g) + sign * r.of(a, b, c, f, g);
            }
            return x;
        }
        Expr product(int d) throws Fault {
            Expr x = part(d);
            while (is("*")) { i++; Expr l = x, r = part(d); x = (a, b, c, f, g) -> l.of(a, b, c, f, g) * r.of(a, b, c, f, g); }
            return x;
        }
        Expr part(int d) throws Fault {
            boolean fact = t().kind() == 'w' && Set.of("speed", "press", "heat", "touch", "wall").contains(t().text());
            if (!fact && t().kind() != 'n' && !is("not") && !is("(")) throw bad(1);
            if (d >= 5) throw bad(5);
            if (is("not")) { i++; Expr x = part(d + 1); return (a, b, c, f, g) -> x.of(a, b, c, f, g) == 0 ? 1 : 0; }
            if (is("(")) { i++; Expr x = e(d + 1); take(")"); return x; }
            if (t().kind() == 'n') { int v = num(0, 9999); return (a, b, c, f, g) -> v; }
            String w = t().text(); i++;
            return (a, b, c, f, g) -> switch (w) { case "speed" -> a; case "press" -> b; case "heat" -> c; case "touch" -> f; default -> g; };
        }
    }

    int spindle() {
        Parser p = new Parser(tape.toString());
        tape.setLength(0);
        try { p.all(); } catch (Fault f) { return f.code; }
        s = p.out;
        return 0;
    }

    // ---- bowls and notes

    Bowl b(int bowl) { return bowl >= 0 && bowl < s.bowls.size() ? s.bowls.get(bowl) : null; }
    Note n(int note) { return note >= 0 && note < s.notes.size() ? s.notes.get(note) : null; }
    static boolean beat(int t) { return t >= 0 && t <= 199; }

    int bowl(int bowl, int what) {
        Bowl b = b(bowl);
        return b == null || what < 0 || what > 4 ? -1 : new int[] {b.tone, b.size, b.wall, b.kind, b.place}[what];
    }
    int note(int bowl, int from, int length, int press, int finger) {
        if (b(bowl) == null || b(bowl).place < 0 || s.notes.size() == 24) return -1;
        if (from < 0 || !s.notes.isEmpty() && from < s.notes.get(s.notes.size() - 1).from) return -1;
        if (length < 1 || length > 40 || (long) from + length > 200 || press < 1 || press > 9 || finger < -1 || finger > 2 * set("fingers") - 1) return -1;
        Note n = new Note();
        n.bowl = bowl; n.from = from; n.length = length; n.press = press; n.finger = finger;
        s.notes.add(n);
        return s.notes.size() - 1;
    }
    boolean drop() { if (s.notes.isEmpty()) return false; s.notes.remove(s.notes.size() - 1); return true; }
    boolean finger(int note, int finger) { if (n(note) == null || finger < -1 || finger > 2 * set("fingers") - 1) return false; n(note).finger = finger; return true; }
    int noteOf(int note, int what) {
        Note n = n(note);
        return n == null || what < 0 || what > 4 ? -1 : new int[] {n.bowl, n.from, n.length, n.press, n.finger}[what];
    }
    int touched(int bowl, int beat) {
        if (b(bowl) == null || !beat(beat)) return -1;
        return s.notes.stream().filter(n -> n.bowl == bowl && n.lasts(beat)).mapToInt(n -> n.press).sum();
    }
    int warmth(int bowl, int beat) {
        if (b(bowl) == null || !beat(beat)) return -1;
        int w = 0;
        for (int t = 0; t < beat; t++) {
            int p = touched(bowl, t);
            if (p == 0) w = w < set("cool") ? 0 : w - set("cool");
            else w += b(bowl).kind == 1 || b(bowl).kind == 2 ? set("warm") * p / 2 : set("warm") * p;
        }
        return w;
    }
    int cracked(int bowl) {
        if (b(bowl) == null) return -1;
        for (int t = 0; t < 200; t++) if (warmth(bowl, t) > b(bowl).wall * set("crack")) return t;
        return -1;
    }

    // ---- speaking

    /** Beats a finger has touched since wetted ahead of a beat of a note, by its notes by number, each in full. */
    int worn(int[] fingers, int note, int beat) {
        List<Note> mine = new ArrayList<>();
        for (int i = 0; i < note; i++) if (fingers[i] == fingers[note]) mine.add(n(i));
        mine.add(n(note));
        int start = 0;
        for (int i = 1; i < mine.size(); i++) if (mine.get(i).from - mine.get(i - 1).end() >= set("dip")) start = i;
        int sum = beat - n(note).from;
        for (int i = start; i < mine.size() - 1; i++) sum += mine.get(i).length;
        return sum;
    }
    int[] told() { return s.notes.stream().mapToInt(n -> n.finger).toArray(); }
    int whyAt(int note, int beat, int treadle) {
        Note n = n(note);
        Bowl b = b(n.bowl);
        if (beat - n.from < set("soon")) return 1;
        int crack = crackOf(n.bowl);
        if (crack >= 0 && crack <= beat) return 2;
        if (n.finger != -1 && worn(told(), note, beat) >= set("dry")) return 3;
        for (Expr e : s.speaks) if (e.of(b.size * treadle, n.press - (b.kind == 2 ? 1 : 0), heatAt(n.bowl, beat), beat - n.from, b.wall) == 0) return 4;
        return 0;
    }
    /** Warmth by bowl and beat, kept for one call alone. */
    private int[][] heats;
    private int heatAt(int bowl, int beat) { return heats == null ? warmth(bowl, beat) : heats[bowl][beat]; }
    private int crackOf(int bowl) {
        if (heats == null) return cracked(bowl);
        for (int t = 0; t < 200; t++) if (heats[bowl][t] > b(bowl).wall * set("crack")) return t;
        return -1;
    }
    private void heat() {
        heats = new int[s.bowls.size()][200];
        for (int b = 0; b < s.bowls.size(); b++) for (int t = 0; t < 200; t++) heats[b][t] = warmth(b, t);
    }
    int why(int note, int beat) {
        if (n(note) == null || !n(note).lasts(beat)) throw new NoSuchElementException();
        return whyAt(note, beat, set("treadle"));
    }
    int speaks(int note) {
        if (n(note) == null) return -1;
        int sum = 0;
        for (int t = 0; t < 200; t++) if (n(note).lasts(t) && why(note, t) == 0) sum++;
        return sum;
    }
    int sounds(int beat) {
        if (!beat(beat)) return -1;
        int bits = 0;
        for (int i = 0; i < s.notes.size(); i++) if (n(i).lasts(beat) && why(i, beat) == 0) bits += 1 << i;
        return bits;
    }
    int along(int beat) {
        if (!beat(beat)) return -1;
        int bits = 0;
        int sounds = sounds(beat);
        for (int b = 0; b < s.bowls.size(); b++) {
            boolean rings = false;
            for (int i = 0; i < s.notes.size(); i++) {
                Bowl o = b(n(i).bowl);
                if ((sounds >> i & 1) == 1 && (o.place == b(b).place + 1 || o.place == b(b).place - 1) && Math.abs(o.tone - b(b).tone) <= set("along")) rings = true;
            }
            int crack = cracked(b);
            if (rings && b(b).place >= 0 && touched(b, beat) == 0 && (crack < 0 || crack > beat)) bits += 1 << b;
        }
        return bits;
    }
    int silence(int beat, int what) {
        if (!beat(beat) || what < 0 || what > 2) return -1;
        for (int t = beat; t < 200; t++) {
            int first = -1;
            for (int i = s.notes.size() - 1; i >= 0; i--) if (n(i).lasts(t)) first = i;
            if (first >= 0 && sounds(t) == 0) return new int[] {t, first, why(first, t)}[what];
        }
        return -1;
    }
    int atTreadle(int treadle) {
        if (treadle < 1 || treadle > 99) return -1;
        heat();
        int sum = spoken(treadle);
        heats = null;
        return sum;
    }
    private int spoken(int treadle) {
        int sum = 0;
        for (int i = 0; i < s.notes.size(); i++) for (int t = n(i).from; t < n(i).end(); t++) if (whyAt(i, t, treadle) == 0) sum++;
        return sum;
    }
    int best(int what) {
        heat();
        int best = 1, most = -1;
        for (int t = 1; t <= 99; t++) { int sum = spoken(t); if (sum > most) { most = sum; best = t; } }
        heats = null;
        return what == 0 ? best : what == 1 ? most : -1;
    }

    // ---- hands

    int wrongIn(int[] f, int note) {
        if (f[note] == -1) return 1;
        Note n = n(note);
        int hand = set("fingers");
        boolean busy = false, crosses = false, wide = false, dry = false;
        for (int i = 0; i < note; i++) {
            if (f[i] == -1 || !n(i).meets(n)) continue;
            int place = b(n.bowl).place, other = b(n(i).bowl).place;
            if (f[i] == f[note]) busy = true;
            if (f[i] < f[note] && !(other < place) || f[i] > f[note] && !(other > place)) crosses = true;
            if (f[i] / hand == f[note] / hand && Math.abs(place - other) > set("reach")) wide = true;
        }
        for (int t = n.from; t < n.end(); t++) if (worn(f, note, t) >= set("dry")) dry = true;
        return busy ? 2 : crosses ? 3 : wide ? 4 : dry ? 5 : 0;
    }
    int wrong(int note) { return n(note) == null ? -1 : wrongIn(told(), note); }
    int judged() { for (int i = 0; i < s.notes.size(); i++) if (wrong(i) != 0) return i; return -1; }
    int liftsOf(int[] f, int notes) {
        int sum = 0;
        for (int i = 0; i < notes; i++) {
            int before = -1;
            for (int j = 0; j < i; j++) if (f[j] == f[i] && f[i] != -1) before = j;
            if (before < 0 || n(before).bowl != n(i).bowl || n(before).end() != n(i).from) sum++;
        }
        return sum;
    }
    int lifts() { return liftsOf(told(), s.notes.size()); }
    private int[] bestFingers;
    private int bestLifts;
    private int farthest;
    private void search(int[] f, int k) {
        farthest = Math.max(farthest, k);
        if (k == f.length) {
            int l = liftsOf(f, k);
            if (bestFingers == null || l < bestLifts) { bestFingers = f.clone(); bestLifts = l; }
            return;
        }
        for (int x = 0; x < 2 * set("fingers"); x++) { f[k] = x; if (wrongIn(f, k) == 0) search(f, k + 1); }
    }
    private boolean searched() {
        bestFingers = null;
        farthest = 0;
        if (s.notes.size() > 8) return false;
        search(new int[s.notes.size()], 0);
        return true;
    }
    int fewest() { return searched() && bestFingers != null ? bestLifts : -1; }
    int fingered(int note) { return n(note) != null && searched() && bestFingers != null ? bestFingers[note] : -1; }
    int far() { return searched() ? farthest : -1; }

    // ---- pairs, spares, order

    int speed(Pair p, int[] g) {
        return Math.abs((b(p.a()).tone + g[p.a()] * set("grind")) * p.q() - (b(p.b()).tone + g[p.b()] * set("grind")) * p.p());
    }
    int beating(int pair) { return pair < 0 || pair >= s.pairs.size() ? -1 : speed(s.pairs.get(pair), new int[12]); }
    int within() { int bits = 0; for (int i = 0; i < s.pairs.size(); i++) if (beating(i) <= s.pairs.get(i).within()) bits |= 1 << i; return bits; }
    private int[] bestGround;
    private int bestGlass;
    private void grind(int[] g, int bowl, int glass) {
        if (bestGround != null && glass >= bestGlass) return;
        for (Pair p : s.pairs) if (p.a() < bowl && p.b() < bowl && speed(p, g) > p.within()) return;
        if (bowl == s.bowls.size()) { bestGround = g.clone(); bestGlass = glass; return; }
        boolean paired = s.pairs.stream().anyMatch(p -> p.a() == bowl || p.b() == bowl);
        for (int x = paired ? -3 : 0; x <= (paired ? 3 : 0); x++) {
            int tone = b(bowl).tone + x * set("grind");
            if (tone < 1 || tone > 9999) continue;
            g[bowl] = x;
            grind(g, bowl + 1, glass + Math.abs(x) * b(bowl).size);
        }
        g[bowl] = 0;
    }
    int ground() {
        bestGround = null;
        if (s.pairs.stream().flatMap(p -> java.util.stream.Stream.of(p.a(), p.b())).distinct().count() > 8) return -1;
        grind(new int[12], 0, 0);
        return bestGround == null ? -1 : bestGlass;
    }
    int groundOf(int bowl) {
        if (b(bowl) == null || ground() == -1) throw new NoSuchElementException();
        return bestGround[bowl];
    }
    int spare(int bowl) {
        if (b(bowl) == null || b(bowl).place < 0) return -1;
        int best = -1;
        for (int i = s.bowls.size() - 1; i >= 0; i--)
            if (b(i).kind == 3 && (best < 0 || Math.abs(b(i).tone - b(bowl).tone) <= Math.abs(b(best).tone - b(bowl).tone))) best = i;
        return best;
    }
    boolean exchange(int bowl, int spare) {
        if (b(bowl) == null || b(spare) == null || b(bowl).kind == 3 || b(spare).kind != 3) return false;
        b(spare).place = b(bowl).place; b(spare).kind = 0; b(bowl).place = -1; b(bowl).kind = 3;
        for (Note n : s.notes) if (n.bowl == bowl) n.bowl = spare;
        return true;
    }
    private int movedBy(int[] placeOf) {
        int sum = 0;
        for (int i = 1; i < s.notes.size(); i++) sum += Math.abs(placeOf[n(i).bowl] - placeOf[n(i - 1).bowl]);
        return sum;
    }
    int moved() { return movedBy(s.bowls.stream().mapToInt(b -> b.place).toArray()); }
    private List<Integer> bestOrder;
    private int bestMoved;
    private void permute(List<Integer> order, List<Integer> rest) {
        if (rest.isEmpty()) {
            int[] place = new int[12];
            for (int i = 0; i < order.size(); i++) place[order.get(i)] = i;
            int m = movedBy(place);
            if (bestOrder == null || m < bestMoved) { bestOrder = new ArrayList<>(order); bestMoved = m; }
            return;
        }
        for (int i = 0; i < rest.size(); i++) {
            List<Integer> o = new ArrayList<>(order), r = new ArrayList<>(rest);
            o.add(r.remove(i));
            permute(o, r);
        }
    }
    int order() {
        bestOrder = null;
        List<Integer> all = new ArrayList<>();
        for (int i = 0; i < s.bowls.size(); i++) if (b(i).place >= 0) all.add(i);
        if (all.size() > 8) return -1;
        permute(new ArrayList<>(), all);
        return bestMoved;
    }
    int ordered(int place) { return order() == -1 || place < 0 || place >= bestOrder.size() ? -1 : bestOrder.get(place); }
    boolean mark(int mark, boolean back) {
        if (mark < 0 || mark > 3 || back && marks[mark] == null) return false;
        if (back) s = marks[mark].copy(); else marks[mark] = s.copy();
        return true;
    }
    int count(int what) {
        if (what < 0 || what > 16) return -1;
        int[] all = Arrays.copyOf(new int[] {s.bowls.size(), (int) s.bowls.stream().filter(b -> b.place >= 0).count(), s.pairs.size(), s.speaks.size(), s.notes.size()}, 17);
        System.arraycopy(s.set, 0, all, 5, 11);
        all[16] = tape.length();
        return all[what];
    }
}
