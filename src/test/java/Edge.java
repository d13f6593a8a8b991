import java.util.LinkedHashMap;
import java.util.Map;
import java.util.NoSuchElementException;

/** What the tests of boundary cases share: refused calls, and all that may not change by them. */
final class Edge {
    static final int LEAST = Integer.MIN_VALUE;
    static final int MOST = Integer.MAX_VALUE;

    /** One call of the face. */
    interface Call {
        int on(FinerSteps x);
    }

    /** Numbers that lie outside of 0 .. count - 1, next to it and as far from it as can be. */
    static int[] outside(int count) {
        return new int[] {LEAST, -1, count, count + 1, MOST};
    }

    /** It answers NONE by a trouble, and nothing but that trouble changes. */
    static void refused(FinerSteps x, int trouble, String call, Call made) {
        refused(x, trouble, FinerSteps.NONE, call, made);
    }

    static void refused(FinerSteps x, int trouble, int answer, String call, Call made) {
        String before = look(x);
        int got = made.on(x);
        Kit.due(call, got, answer);
        Kit.due(call + ", then trouble()", x.trouble(), trouble);
        Kit.due(call + ", then where()", x.where(), FinerSteps.NONE);
        Kit.dueText(call + ": nothing changes", look(x), before);
    }

    /** It isn't refused, whatever number it answers. */
    static void answers(FinerSteps x, int answer, String call, Call made) {
        Kit.due(x, call, made.on(x), answer, 0);
        Kit.due(call + ", then where()", x.where(), FinerSteps.NONE);
    }

    static void throwsNone(FinerSteps x, int m, int v, int k) {
        int trouble = x.trouble();
        Kit.dueNoLetter(x, m, v, k);
        Kit.due("letter(" + m + ", " + v + ", " + k + "), then trouble()", x.trouble(), trouble);
    }

    /** All that is to be seen of what calls can change: machines, acts, run, case, writing, tape, fault. */
    static String look(FinerSteps x) {
        StringBuilder b = new StringBuilder();
        b.append("size ").append(x.size()).append(" fault ").append(x.fault()).append(" shown");
        for (int what = 0; what < 3; what++) {
            b.append(' ').append(x.shown(what));
        }
        b.append(" now");
        for (int what = 0; what < 5; what++) {
            b.append(' ').append(x.now(what));
        }
        b.append(" beside ").append(x.beside(0)).append(' ').append(x.beside(1));
        for (int m = 0; m < 3 && x.machine(m, 0) >= 0; m++) {
            b.append(" machine ").append(name(x, m, -1));
            for (int what = 0; what < 9; what++) {
                b.append(' ').append(x.machine(m, what));
            }
            for (int e = 0; e < x.machine(m, 2); e++) {
                b.append(' ').append(x.event(m, e, 4));
            }
        }
        return b.append(" written ").append(Kit.written(x)).toString();
    }

    static String name(FinerSteps x, int m, int v) {
        StringBuilder b = new StringBuilder();
        try {
            for (int k = 0; k < 99; k++) {
                b.append((char) ('a' + x.letter(m, v, k)));
            }
        } catch (NoSuchElementException e) {
            return b.toString();
        }
        return b.append('?').toString();
    }

    /** Every call that may be refused, each with numbers that suit the first machine. */
    static Map<String, Call> mayBeRefused() {
        Map<String, Call> all = new LinkedHashMap<>();
        all.put("machine", x -> x.machine(0, 0));
        all.put("variable", x -> x.variable(0, 0, 0));
        all.put("event", x -> x.event(0, 0, 0));
        all.put("value", x -> x.value(0, 0, 0));
        all.put("sound", x -> x.sound(0, 0));
        all.put("glued", x -> x.glued(1, 0, 0));
        all.put("beneath", x -> x.beneath(1, 0, 0));
        all.put("can", x -> x.can(0, 0, 0, 0));
        all.put("gives", x -> x.gives(0, 0, 0, 0));
        all.put("variant", x -> x.variant(1, 0));
        all.put("duty 0", x -> x.duty(0, 0, 0));
        all.put("duty 3", x -> x.duty(0, 0, 3));
        all.put("open", x -> x.open(0));
        all.put("cases", x -> x.cases(0, 0, 0));
        all.put("run", x -> x.run(0));
        all.put("step", x -> x.step(0, 0));
        all.put("now", x -> x.now(0));
        all.put("beside", x -> x.beside(0));
        all.put("draws", x -> x.draws(1, 1));
        all.put("reach", x -> x.reach(0));
        all.put("steps", x -> x.steps(0, 0));
        all.put("stuck", x -> x.stuck(0));
        all.put("unsound", x -> x.unsound(0));
        all.put("aside", x -> x.aside(0, 0, true));
        return all;
    }
}
