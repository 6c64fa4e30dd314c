import java.util.NoSuchElementException;
import java.util.Random;

/** Calls with wild arguments in all states: nothing is thrown but what the document names, where it names it. */
public final class WildCalls {
    private static final int[] EDGES = {Integer.MIN_VALUE, Integer.MIN_VALUE + 1, -201, -2, -1, 0, 1, 2, 3, 4, 7, 8, 9, 11, 12, 13, 16, 17, 23, 24, 25,
        39, 40, 41, 98, 99, 100, 199, 200, 201, 1000, 1 << 16, Integer.MAX_VALUE - 40, Integer.MAX_VALUE - 1, Integer.MAX_VALUE};
    private static final String[] LINES = {"bowl a tone 9999 size 99 wall 20;", "bowl b tone 1 size 99 wall 1 gilt;", "bowl c tone 1 size 1 wall 1 spare;", "bowl d tone 5000 size 9 wall 9 rimmed;",
        "pair a 20 b 20 within 0;", "pair b 1 a 20 within 9999;", "pair c 1 d 1 within 9999;", "speak 9999*9999*speed*heat-touch;", "speak not(not(speed+1));",
        "set fingers 3;", "set warm 99;", "set crack 999;", "set dry 99;", "set grind 99;", "set along 999;", "set treadle 99;", "(", "not ", "speak ((((", "bowl ", "~"};

    private WildCalls() { }

    public static void main(String[] args) {
        for (int seed = 0; seed < 3000; seed++) {
            run(new Random(seed));
        }
        System.out.println("wild calls: 3000 runs");
    }

    private static int any(Random r) {
        return r.nextInt(3) == 0 ? EDGES[r.nextInt(EDGES.length)] : r.nextInt(4) == 0 ? r.nextInt(200) : r.nextInt(8);
    }

    private static void feed(GlassSpindle x, Random r) {
        StringBuilder text = new StringBuilder();
        for (int i = r.nextInt(14); i > 0; i--) {
            text.append(LINES[r.nextInt(r.nextInt(3) == 0 ? LINES.length : 16)]);
        }
        for (int i = 0; i < text.length(); i += 8) {
            long l = 0;
            for (int j = 0; j < 8; j++) {
                l = l << 8 | (i + j < text.length() ? text.charAt(i + j) : 0);
            }
            x.feed(l, 0, r.nextInt(200) == 0 ? r.nextLong() : 0);
        }
    }

    private static void run(Random r) {
        GlassSpindle x = new GlassSpindle();
        for (int i = 0; i < 512; i++) {
            int a = any(r);
            int b = any(r);
            switch (r.nextInt(36)) {
                case 0: feed(x, r); x.spindle(); break;
                case 1: x.bowl(a, b); break;
                case 2: case 3: case 4: x.note(a, b, any(r), any(r), any(r)); break;
                case 5: x.drop(); break;
                case 6: x.finger(a, b); break;
                case 7: x.noteOf(a, b); break;
                case 8: x.touched(a, b); break;
                case 9: x.warmth(a, b); break;
                case 10: x.cracked(a); break;
                case 11: case 12: why(x, a, b); break;
                case 13: x.speaks(a); break;
                case 14: x.sounds(a); break;
                case 15: x.along(a); break;
                case 16: x.silence(a, b); break;
                case 17: x.best(a); break;
                case 18: x.atTreadle(a); break;
                case 19: x.wrong(a); break;
                case 20: x.judged(); break;
                case 21: x.lifts(); break;
                case 22: x.fewest(); break;
                case 23: x.fingered(a); break;
                case 24: x.far(); break;
                case 25: x.beating(a); break;
                case 26: x.within(); break;
                case 27: x.ground(); break;
                case 28: groundOf(x, a); break;
                case 29: x.spare(a); break;
                case 30: x.exchange(a, b); break;
                case 31: x.moved(); break;
                case 32: x.order(); break;
                case 33: x.ordered(a); break;
                case 34: x.mark(a, r.nextBoolean()); break;
                default: x.count(a); break;
            }
        }
    }

    private static void why(GlassSpindle x, int a, int b) {
        try {
            x.why(a, b);
        } catch (NoSuchElementException e) {
            return;
        }
    }

    private static void groundOf(GlassSpindle x, int a) {
        try {
            x.groundOf(a);
        } catch (NoSuchElementException e) {
            return;
        }
    }
}
