import java.util.ArrayList;
import java.util.LinkedHashMap;
import java.util.List;
import java.util.Map;

/** What asking, changing and refusing do to one another: asking changes nothing, a change is seen by all that is asked, a refused call changes nothing. */
public final class ChangeEdges extends Asking {
    private interface Question { Object of(GlassSpindle x); }

    private static final String TEXT = "bowl a tone 100 size 2 wall 3;bowl b tone 103 size 5 wall 6 rimmed;bowl c tone 102 size 8 wall 9 spare;bowl d tone 99 size 3 wall 2 gilt;bowl e tone 104 size 1 wall 9 spare;"
        + "pair a 1 b 1 within 1;pair c 1 d 1 within 1;speak speed<60;speak touch<6 and press<9;set fingers 2;set reach 2;set dry 5;set dip 3;set warm 2;set crack 6;set along 4;";
    private static final String OTHER = "bowl a tone 50 size 9 wall 1;bowl b tone 55 size 9 wall 1 spare;bowl c tone 52 size 9 wall 1;bowl d tone 53 size 9 wall 1;pair a 1 c 1 within 0;speak touch;set fingers 3;set warm 9;";

    private ChangeEdges() { }

    public static void main(String[] args) {
        Map<String, Question> questions = questions();
        Map<String, Question> changes = changes();
        askingChangesNothing(questions);
        changesAreSeen(questions, changes);
        changesOneBehindTheOther(questions, changes);
        refusedCalls(questions, refused());
        end("edges of change");
    }

    private static GlassSpindle prepared() {
        GlassSpindle x = new GlassSpindle();
        read(x, OTHER);
        x.note(2, 0, 3, 1, 1);
        x.mark(1, false);
        read(x, TEXT);
        x.note(0, 0, 3, 2, 0);
        x.note(1, 1, 4, 3, 2);
        x.note(0, 3, 5, 2, 0);
        x.note(3, 6, 4, 1, 3);
        x.note(1, 9, 2, 4, NONE);
        return x;
    }

    private static Map<String, Question> questions() {
        Map<String, Question> all = new LinkedHashMap<>();
        for (int i = 0; i < 17; i++) {
            int what = i;
            all.put("count(" + i + ")", x -> x.count(what));
        }
        for (int i = 0; i < 6; i++) {
            int n = i;
            all.put("bowl(" + n + ", ..)", x -> x.bowl(n, 0) + " " + x.bowl(n, 3) + " " + x.bowl(n, 4));
            all.put("noteOf(" + n + ", ..)", x -> x.noteOf(n, 0) + " " + x.noteOf(n, 1) + " " + x.noteOf(n, 4));
            all.put("touched(" + n + ", ..)", x -> x.touched(n, 0) + " " + x.touched(n, 3) + " " + x.touched(n, 9));
            all.put("warmth(" + n + ", ..)", x -> x.warmth(n, 1) + " " + x.warmth(n, 5) + " " + x.warmth(n, 11));
            all.put("cracked(" + n + ")", x -> x.cracked(n));
            all.put("why(" + n + ", ..)", x -> why(x, n, 2) + " " + why(x, n, 4) + " " + why(x, n, 7) + " " + why(x, n, 9));
            all.put("speaks(" + n + ")", x -> x.speaks(n));
            all.put("wrong(" + n + ")", x -> x.wrong(n));
            all.put("fingered(" + n + ")", x -> x.fingered(n));
            all.put("beating(" + n + ")", x -> x.beating(n));
            all.put("groundOf(" + n + ")", x -> groundOf(x, n));
            all.put("spare(" + n + ")", x -> x.spare(n));
            all.put("ordered(" + n + ")", x -> x.ordered(n));
            all.put("silence(.., " + n + ")", x -> x.silence(0, n) + " " + x.silence(3, n));
        }
        for (int i = 0; i < 12; i++) {
            int beat = i;
            all.put("sounds(" + i + ")", x -> x.sounds(beat));
            all.put("along(" + i + ")", x -> x.along(beat));
        }
        all.put("best(0)", x -> x.best(0));
        all.put("best(1)", x -> x.best(1));
        all.put("atTreadle(10)", x -> x.atTreadle(10));
        all.put("atTreadle(20)", x -> x.atTreadle(20));
        all.put("judged()", GlassSpindle::judged);
        all.put("lifts()", GlassSpindle::lifts);
        all.put("fewest()", GlassSpindle::fewest);
        all.put("far()", GlassSpindle::far);
        all.put("within()", GlassSpindle::within);
        all.put("ground()", GlassSpindle::ground);
        all.put("moved()", GlassSpindle::moved);
        all.put("order()", GlassSpindle::order);
        return all;
    }

    private static Map<String, Question> changes() {
        Map<String, Question> all = new LinkedHashMap<>();
        all.put("feed", x -> x.feed(0x7365742064727920L, 0x333b000000000000L, 0));
        all.put("spindle of an empty tape", GlassSpindle::spindle);
        all.put("spindle of another text", x -> read(x, OTHER));
        all.put("spindle of the same text", x -> read(x, TEXT));
        all.put("note", x -> x.note(0, 9, 3, 9, 0));
        all.put("drop", GlassSpindle::drop);
        all.put("finger", x -> x.finger(3, 0));
        all.put("finger to none", x -> x.finger(0, NONE));
        all.put("exchange", x -> x.exchange(0, 2));
        all.put("exchange of one without notes", x -> x.drop() && x.drop() && x.exchange(3, 4));
        all.put("mark laid", x -> x.mark(0, false));
        all.put("mark back", x -> x.mark(1, true));
        all.put("mark laid and back", x -> x.mark(2, false) && x.drop() && x.mark(2, true));
        return all;
    }

    private static Map<String, Question> refused() {
        Map<String, Question> all = new LinkedHashMap<>();
        all.put("feed of others", x -> x.feed(0, -1L, 0x1f7f80ff090b0d00L));
        all.put("spindle with a fault", x -> read(x, OTHER + "?") == 1 + 16 * OTHER.length());
        all.put("spindle with a fault in a law", x -> read(x, "set dry 1;speak 0;speak (0;") == 1 + 16 * 26);
        all.put("note of no bowl", x -> x.note(5, 9, 1, 1, 0));
        all.put("note of a spare", x -> x.note(2, 9, 1, 1, 0));
        all.put("note from ahead", x -> x.note(0, 8, 1, 1, 0));
        all.put("note too long", x -> x.note(0, 9, 41, 1, 0));
        all.put("note pressed too hard", x -> x.note(0, 9, 1, 10, 0));
        all.put("note of no finger", x -> x.note(0, 9, 1, 1, 4));
        all.put("finger of no note", x -> x.finger(5, 0));
        all.put("no finger", x -> x.finger(0, 4));
        all.put("exchange by no spare", x -> x.exchange(0, 1));
        all.put("exchange of a spare", x -> x.exchange(2, 4));
        all.put("no mark", x -> x.mark(4, false));
        all.put("back to no mark", x -> x.mark(4, true));
        all.put("back to nothing", x -> x.mark(3, true));
        all.put("why of no note", x -> why(x, 5, 0));
        all.put("groundOf of no bowl", x -> groundOf(x, 5));
        return all;
    }

    private static List<Object> answers(Map<String, Question> questions, GlassSpindle x) {
        List<Object> all = new ArrayList<>();
        questions.values().forEach(q -> all.add(q.of(x)));
        return all;
    }

    private static void askingChangesNothing(Map<String, Question> questions) {
        sentence("what is asked changes nothing");
        List<Object> want = new ArrayList<>();
        questions.values().forEach(q -> want.add(q.of(prepared())));
        questions.forEach((name, q) -> {
            GlassSpindle x = prepared();
            q.of(x);
            due("all behind " + name, answers(questions, x), want);
        });
    }

    private static void changesAreSeen(Map<String, Question> questions, Map<String, Question> changes) {
        sentence("a change is seen by all that is asked");
        changes.forEach((change, c) -> questions.forEach((name, q) -> {
            GlassSpindle asked = prepared();
            q.of(asked);
            Object answer = c.of(asked);
            GlassSpindle unasked = prepared();
            due(change + " where " + name + " was asked", answer, c.of(unasked));
            due(name + " behind " + change, q.of(asked), q.of(unasked));
        }));
    }

    private static void changesOneBehindTheOther(Map<String, Question> questions, Map<String, Question> changes) {
        sentence("two changes are seen by all that is asked");
        changes.forEach((one, c) -> changes.forEach((other, d) -> {
            GlassSpindle asked = prepared();
            answers(questions, asked);
            c.of(asked);
            answers(questions, asked);
            d.of(asked);
            GlassSpindle unasked = prepared();
            c.of(unasked);
            d.of(unasked);
            due("all behind " + one + " and " + other, answers(questions, asked), answers(questions, unasked));
        }));
    }

    private static void refusedCalls(Map<String, Question> questions, Map<String, Question> refused) {
        sentence("a refused call changes nothing");
        List<Object> want = answers(questions, prepared());
        refused.forEach((name, r) -> {
            GlassSpindle x = prepared();
            Object answer = r.of(x);
            due(name + " is refused", answer.equals(NONE) || answer.equals(false) || answer.equals(THROWS) || answer.equals(0) || name.startsWith("spindle") && answer.equals(true), true);
            due("all behind " + name, answers(questions, x), want);
            GlassSpindle asked = prepared();
            answers(questions, asked);
            r.of(asked);
            due("all behind " + name + ", asked before", answers(questions, asked), want);
        });
    }
}
