import java.util.NoSuchElementException;

/** What the tests that are reckoned by hand share: asking, and saying which answers are not as due. */
abstract class Asking {
    static final int NONE = GlassSpindle.NONE;
    static final int LOWEST = Integer.MIN_VALUE;
    static final int HIGHEST = Integer.MAX_VALUE;
    static final String THROWS = "throws";
    static final String BOWL = "bowl a tone 1 size 1 wall 1;";
    private static int asked = 0;
    private static int wrong = 0;
    private static String sentence = "";

    /** The sentence of the document, or the promise, that the answers from here on are about. */
    static void sentence(String words) {
        sentence = words;
    }

    static void due(String call, Object got, Object want) {
        asked++;
        if (!got.equals(want)) {
            wrong++;
            System.out.println("'" + sentence + "': " + call + " answered " + got + ", due is " + want);
        }
    }

    static void end(String name) {
        System.out.println(name + ": " + asked + " answers, wrong: " + wrong);
        if (wrong != 0) {
            System.exit(1);
        }
    }

    static int feed(GlassSpindle x, String text) {
        int there = x.count(16);
        for (int i = 0; i < text.length(); i += 24) {
            long[] l = new long[3];
            for (int j = 0; j < 24; j++) {
                l[j / 8] = l[j / 8] << 8 | (i + j < text.length() ? text.charAt(i + j) : 0);
            }
            there = x.feed(l[0], l[1], l[2]);
        }
        return there;
    }

    static int read(GlassSpindle x, String text) {
        feed(x, text);
        return x.spindle();
    }

    static GlassSpindle of(String text) {
        GlassSpindle x = new GlassSpindle();
        due("spindle of " + text, read(x, text), 0);
        return x;
    }

    /** The sign ^ stands ahead of the token that is wrong, and is none of the text. */
    static void fault(int kind, String text) {
        int place = text.indexOf('^');
        faultAt(kind, place, text.substring(0, place) + text.substring(place + 1));
    }

    static void faultAt(int kind, int place, String text) {
        GlassSpindle x = new GlassSpindle();
        read(x, "bowl old tone 7 size 7 wall 7;set warm 9;speak 1;");
        x.note(0, 3, 2, 1, 0);
        due("spindle of " + text, read(x, text), kind + 16 * place);
        due("count(16) behind " + text, x.count(16), 0);
        due("all stays behind " + text, "" + x.count(0) + x.count(1) + x.count(2) + x.count(3) + x.count(4) + x.count(11) + x.bowl(0, 0) + x.noteOf(0, 1), "11011973");
    }

    static Object why(GlassSpindle x, int note, int beat) {
        try {
            return x.why(note, beat);
        } catch (NoSuchElementException e) {
            return THROWS;
        }
    }

    static Object groundOf(GlassSpindle x, int bowl) {
        try {
            return x.groundOf(bowl);
        } catch (NoSuchElementException e) {
            return THROWS;
        }
    }

    /** BOWLS a, b, .. of tones 100, 101, .. that stand much. */
    static String bowls(int many, String kind) {
        StringBuilder s = new StringBuilder();
        for (int i = 0; i < many; i++) {
            s.append("bowl ").append((char) ('a' + i)).append(" tone ").append(100 + i).append(" size 2 wall 20").append(kind).append(";");
        }
        return s.toString();
    }
}
