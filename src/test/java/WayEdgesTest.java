/** Boundary cases of promises 27 to 32: where one can come, events put aside, letters. */
public final class WayEdgesTest {
    private static final String A = "machine a;var n from 0 to 3 at 0";
    private static final String TWO = A + ";law n < 3;event go when n < 3 do n = n + 1;"
            + "machine b;var x from 0 to 1 at 1;event hop of go when 1 = 1 do x = x;event idle when 1 = 1 do x = x";
    private static final String HUNDRED = "machine a;var n from 0 to 9 at 0;var m from 0 to 9 at 0";
    /** From the first of a hundred states through all of them, one by one. */
    private static final String CHAIN = HUNDRED + ";event next when m < 9 do m = m + 1;event carry when m = 9 and n < 9 do n = n + 1, m = 0";

    public static void main(String[] args) {
        waysOfNone();
        stepsOfNone();
        reachWithoutSteps();
        reachAll();
        reachByStepsToNoState();
        reachByTheLastPick();
        stepsFewest();
        stepsAlongAHundred();
        stepsThatCant();
        stuckNowhere();
        stuckAtOnce();
        stuckOnlyWhereOneComes();
        stuckByStepsThenNumbers();
        stuckByStepsToItself();
        stuckByStepsToNoState();
        unsoundNone();
        unsoundAll();
        unsoundOnlyWhereOneComes();
        unsoundOfAFinerOne();
        waysWithActs();
        waysLeaveTheRun();
        asideOfNone();
        asideThatIsSo();
        asideOneToFour();
        asideOfEachMachine();
        letterOfNone();
        letterFirstAndLast();
        letterOfEachLength();
        letterOverRefusals();
        Kit.end();
    }

    private static void waysOfNone() { // promises 27, 29, 30
        FinerSteps x = Kit.of(TWO);
        for (int m : Edge.outside(2)) {
            Edge.refused(x, 1, "reach(" + m + ")", y -> y.reach(m));
            Edge.refused(x, 1, "stuck(" + m + ")", y -> y.stuck(m));
            Edge.refused(x, 1, "unsound(" + m + ")", y -> y.unsound(m));
        }
    }

    private static void stepsOfNone() { // promise 28
        FinerSteps x = Kit.of(TWO);
        for (int m : Edge.outside(2)) {
            Edge.refused(x, 1, "steps(" + m + ", 0)", y -> y.steps(m, 0));
        }
        for (int state : Edge.outside(4)) {
            Edge.refused(x, 1, "steps(0, " + state + ")", y -> y.steps(0, state));
        }
        for (int state : Edge.outside(2)) {
            Edge.refused(x, 1, "steps(1, " + state + ")", y -> y.steps(1, state));
        }
        Edge.refused(Kit.of(HUNDRED), 1, "steps(0, 100)", y -> y.steps(0, 100));
    }

    private static void reachWithoutSteps() { // promise 27: BEGIN, too
        Edge.answers(Kit.of(A), 1, "no event: reach(0)", y -> y.reach(0));
        Edge.answers(Kit.of("machine a;var n from 7 to 7 at 7"), 1, "one state: reach(0)", y -> y.reach(0));
        Edge.answers(Kit.of(A + ";event e when 1 = 0 do n = 1"), 1, "none can be: reach(0)", y -> y.reach(0));
        Edge.answers(Kit.of(A + ";event e when 1 = 1 do n = n"), 1, "only to itself: reach(0)", y -> y.reach(0));
        Edge.answers(Kit.of(A + ";law 1 = 0"), 1, "BEGIN isn't sound: reach(0)", y -> y.reach(0));
    }

    private static void reachAll() { // promise 27
        Edge.answers(Kit.of(CHAIN), 100, "one by one: reach(0)", y -> y.reach(0));
        Edge.answers(Kit.of(HUNDRED + ";event p any 0 to 9 when 1 = 1 do n = pick;event q any 0 to 9 when 1 = 1 do m = pick"),
                100, "by two picks: reach(0)", y -> y.reach(0));
    }

    private static void reachByStepsToNoState() { // a step to what is no state is none
        FinerSteps x = Kit.of(A + ";event e any 2 to 9 when n = 0 do n = pick");
        Edge.answers(x, 3, "reach(0)", y -> y.reach(0));
        FinerSteps z = Kit.of("machine a;var n from 2 to 3 at 2;event e any 0 to 9 when 1 = 1 do n = n - pick");
        Edge.answers(z, 1, "reach(0)", y -> y.reach(0));
    }

    private static void reachByTheLastPick() {
        FinerSteps x = Kit.of(A + ";event p when 1 = 0 do n = 1;event q when 1 = 0 do n = 1;event r when 1 = 0 do n = 1;"
                + "event s any 90 to 99 when pick = 99 do n = 3");
        Edge.answers(x, 2, "reach(0)", y -> y.reach(0));
        Edge.answers(x, 1, "steps(0, 3)", y -> y.steps(0, 3));
    }

    private static void stepsFewest() { // promise 28
        FinerSteps x = Kit.of("machine a;var n from 0 to 9 at 5;event one when n < 9 do n = n + 1;event three when n < 7 do n = n + 3;"
                + "event back when n = 9 do n = 0");
        int[] due = {3, 4, 5, 4, 5, 0, 1, 2, 1, 2};
        for (int s = 0; s < 10; s++) {
            int asked = s;
            Edge.answers(x, due[s], "steps(0, " + s + ")", y -> y.steps(0, asked));
        }
    }

    private static void stepsAlongAHundred() { // promise 28: 0 to BEGIN, 99 to the last
        FinerSteps x = Kit.of(CHAIN);
        for (int s = 0; s < 100; s++) {
            Kit.due("steps(0, " + s + ")", x.steps(0, s), s);
        }
        FinerSteps y = Kit.of("machine a;var n from 0 to 9 at 9;var m from 0 to 9 at 9;event back when m > 0 do m = m - 1;"
                + "event borrow when m = 0 and n > 0 do n = n - 1, m = 9");
        for (int s = 0; s < 100; s++) {
            Kit.due("backwards: steps(0, " + s + ")", y.steps(0, s), 99 - s);
        }
    }

    private static void stepsThatCant() { // promise 28
        FinerSteps x = Kit.of("machine a;var n from 0 to 3 at 2;event e when n = 2 do n = 3");
        int[] due = {-2, -2, 0, 1};
        for (int s = 0; s < 4; s++) {
            int asked = s;
            Edge.answers(x, due[s], "steps(0, " + s + ")", y -> y.steps(0, asked));
        }
    }

    private static void stuckNowhere() { // promise 29
        Edge.answers(Kit.of(A + ";event e when 1 = 1 do n = n"), -2, "stuck(0)", y -> y.stuck(0));
        Edge.answers(Kit.of(CHAIN + ";event again when n = 9 and m = 9 do n = 0, m = 0"), -2, "stuck(0)", y -> y.stuck(0));
    }

    private static void stuckAtOnce() { // promise 29: BEGIN, by no steps
        Edge.answers(Kit.of(A), 0, "stuck(0)", y -> y.stuck(0));
        Edge.answers(Kit.of("machine a;var n from 0 to 3 at 3;event e when n < 3 do n = 3"), 3, "stuck(0)", y -> y.stuck(0));
        Edge.answers(Kit.of("machine a;var n from 0 to 9 at 9;var m from 0 to 9 at 9"), 99, "stuck(0)", y -> y.stuck(0));
    }

    private static void stuckOnlyWhereOneComes() { // promise 29: from 0 and 1 no step leads, but one can't come there
        Edge.answers(Kit.of("machine a;var n from 0 to 3 at 2;event e when n > 1 do n = 5 - n"), -2, "stuck(0)", y -> y.stuck(0));
        Edge.answers(Kit.of("machine a;var n from 0 to 3 at 2;event e when n = 2 do n = 3"), 3, "stuck(0)", y -> y.stuck(0));
        Edge.answers(Kit.of(CHAIN), 99, "the last of a hundred", y -> y.stuck(0));
    }

    private static void stuckByStepsThenNumbers() { // promise 29
        FinerSteps x = Kit.of("machine a;var n from 0 to 9 at 5;event far when n = 5 do n = 4;event near any 8 to 9 when n = 5 do n = pick;"
                + "event on when n = 4 do n = 0");
        Edge.answers(x, 8, "8 and 9 by one step, 0 by two", y -> y.stuck(0));
        x.aside(0, 1, true);
        Edge.answers(x, 0, "0 alone", y -> y.stuck(0));
        FinerSteps z = Kit.of("machine a;var n from 0 to 9 at 5;event p when n = 5 do n = 9;event q when n = 5 do n = 2;"
                + "event r when n = 5 do n = 7");
        Edge.answers(z, 2, "9, 2 and 7 by one step", y -> y.stuck(0));
    }

    private static void stuckByStepsToItself() { // promise 29: such a step leads from it
        FinerSteps x = Kit.of(A + ";event e when n < 3 do n = n + 1;event stay when n = 3 do n = 3");
        Edge.answers(x, -2, "stuck(0)", y -> y.stuck(0));
        x.aside(0, 1, true);
        Edge.answers(x, 3, "stuck(0)", y -> y.stuck(0));
    }

    private static void stuckByStepsToNoState() { // promise 29: such a step is none
        FinerSteps x = Kit.of(A + ";event e when 1 = 1 do n = n + 1");
        Edge.answers(x, 3, "stuck(0)", y -> y.stuck(0));
        Kit.due("though it can be there", x.can(0, 0, 3, 0), 1);
    }

    private static void unsoundNone() { // promise 30
        Edge.answers(Kit.of(CHAIN), 0, "no law: unsound(0)", y -> y.unsound(0));
        Edge.answers(Kit.of(A + ";law n < 4;event e when n < 3 do n = n + 1"), 0, "unsound(0)", y -> y.unsound(0));
    }

    private static void unsoundAll() { // promise 30
        Edge.answers(Kit.of(CHAIN + ";law 1 = 0"), 100, "unsound(0)", y -> y.unsound(0));
        Edge.answers(Kit.of(A + ";law n > 0"), 1, "BEGIN, too: unsound(0)", y -> y.unsound(0));
    }

    private static void unsoundOnlyWhereOneComes() { // promise 30
        FinerSteps x = Kit.of(A + ";law n = 0;event e when n = 0 do n = 2");
        Kit.due("three aren't sound", x.machine(0, 3) - x.machine(0, 6), 3);
        Edge.answers(x, 1, "but one comes to one of them: unsound(0)", y -> y.unsound(0));
        Edge.answers(Kit.of(A + ";law n = 0"), 0, "one comes to none: unsound(0)", y -> y.unsound(0));
        Edge.answers(Kit.of(A + ";law n < 2;event e when n < 3 do n = n + 1"), 2, "and goes on from there", y -> y.unsound(0));
    }

    private static void unsoundOfAFinerOne() { // promise 30: sound if any is glued with it
        FinerSteps x = Kit.of(A + ";law n < 2;machine b;var x from 0 to 3 at 0;law x = n;event e when x < 3 do x = x + 1");
        Edge.answers(x, 4, "reach(1)", y -> y.reach(1));
        Edge.answers(x, 2, "unsound(1)", y -> y.unsound(1));
        Edge.answers(x, 0, "unsound(0)", y -> y.unsound(0));
    }

    private static void waysWithActs() { // an event put aside can never be
        FinerSteps x = Kit.of(CHAIN + ";law n < 5");
        x.aside(0, 1, true);
        Edge.answers(x, 10, "reach(0)", y -> y.reach(0));
        Edge.answers(x, 9, "stuck(0)", y -> y.stuck(0));
        Edge.answers(x, -2, "steps(0, 10)", y -> y.steps(0, 10));
        Edge.answers(x, 0, "unsound(0)", y -> y.unsound(0));
        x.aside(0, 1, false);
        Edge.answers(x, 100, "reach(0)", y -> y.reach(0));
        Edge.answers(x, 50, "unsound(0)", y -> y.unsound(0));
        x.aside(0, 0, true);
        Edge.answers(x, 1, "reach(0)", y -> y.reach(0));
        Edge.answers(x, 0, "stuck(0)", y -> y.stuck(0));
    }

    private static void waysLeaveTheRun() { // from BEGIN, wherever the run is; and the run stays
        FinerSteps x = Kit.of(CHAIN);
        x.run(0);
        x.draws(40, 1);
        String before = Edge.look(x);
        Kit.due("reach(0)", x.reach(0), 100);
        Kit.due("steps(0, 1)", x.steps(0, 1), 1);
        Kit.due("stuck(0)", x.stuck(0), 99);
        Kit.due("unsound(0)", x.unsound(0), 0);
        Kit.dueText("nothing changes", Edge.look(x), before);
    }

    private static void asideOfNone() { // promise 31
        FinerSteps x = Kit.of(TWO);
        for (boolean is : new boolean[] {true, false}) {
            for (int m : Edge.outside(2)) {
                Edge.refused(x, 1, "aside(" + m + ", 0, " + is + ")", y -> y.aside(m, 0, is));
            }
            for (int e : Edge.outside(2)) {
                Edge.refused(x, 1, "aside(1, " + e + ", " + is + ")", y -> y.aside(1, e, is));
            }
            Edge.refused(x, 1, "aside(0, 1, " + is + "): the first machine has but one", y -> y.aside(0, 1, is));
            Edge.refused(Kit.of(A), 1, "no event: aside(0, 0, " + is + ")", y -> y.aside(0, 0, is));
        }
    }

    private static void asideThatIsSo() { // promise 31: 5
        FinerSteps x = Kit.of(TWO);
        Edge.refused(x, 5, "aside(1, 1, false) at first", y -> y.aside(1, 1, false));
        Edge.answers(x, 1, "aside(1, 1, true)", y -> y.aside(1, 1, true));
        Edge.refused(x, 5, "aside(1, 1, true) again", y -> y.aside(1, 1, true));
        Edge.answers(x, 0, "aside(1, 1, false)", y -> y.aside(1, 1, false));
        Edge.refused(x, 5, "aside(1, 1, false) again", y -> y.aside(1, 1, false));
    }

    private static void asideOneToFour() { // promise 31: how many of its machine are
        String all = ";event p when 1 = 1 do n = 0;event q when 1 = 1 do n = 0;event r when 1 = 1 do n = 0;event s when 1 = 1 do n = 0";
        FinerSteps x = Kit.of(A + all);
        for (int e = 3; e >= 0; e--) {
            int asked = e;
            Edge.answers(x, 4 - e, "aside(0, " + e + ", true)", y -> y.aside(0, asked, true));
        }
        for (int e = 0; e < 4; e++) {
            Kit.due("event(0, " + e + ", 4)", x.event(0, e, 4), 1);
            int asked = e;
            Edge.answers(x, 3 - e, "aside(0, " + e + ", false)", y -> y.aside(0, asked, false));
            Kit.due("event(0, " + e + ", 4)", x.event(0, e, 4), 0);
        }
    }

    private static void asideOfEachMachine() { // promise 31: of its own machine; that which is of it isn't
        FinerSteps x = Kit.of(TWO);
        Edge.answers(x, 1, "aside(0, 0, true)", y -> y.aside(0, 0, true));
        Kit.due("hop isn't", x.event(1, 0, 4), 0);
        Kit.due("hop can be", x.can(1, 0, 0, 0), 1);
        Edge.answers(x, 1, "aside(1, 0, true)", y -> y.aside(1, 0, true));
        Edge.answers(x, 2, "aside(1, 1, true)", y -> y.aside(1, 1, true));
        Edge.answers(x, 0, "aside(0, 0, false)", y -> y.aside(0, 0, false));
        Kit.due("hop is still", x.event(1, 0, 4), 1);
    }

    private static void letterOfNone() { // promise 32
        FinerSteps x = Kit.of(TWO);
        for (int m : Edge.outside(2)) {
            Edge.throwsNone(x, m, -1, 0);
            Edge.throwsNone(x, m, 0, 0);
        }
        for (int v : new int[] {Edge.LEAST, -3, -2, 1, 2, 3, Edge.MOST}) {
            Edge.throwsNone(x, 0, v, 0);
        }
        for (int k : Edge.outside(1)) {
            Edge.throwsNone(x, 0, -1, k);
            Edge.throwsNone(x, 1, 0, k);
        }
    }

    private static void letterFirstAndLast() { // promise 32: 0 a, .. 25 z
        FinerSteps x = Kit.of("machine azbyaza;var zaybzaz from 0 to 1 at 0;var aaaaaaa from 0 to 1 at 0;var zzzzzzz from 0 to 1 at 0");
        String[] names = {"azbyaza", "zaybzaz", "aaaaaaa", "zzzzzzz"};
        for (int v = -1; v < 3; v++) {
            for (int k = 0; k < 7; k++) {
                Kit.due("letter(0, " + v + ", " + k + ")", x.letter(0, v, k), names[v + 1].charAt(k) - 'a');
            }
            for (int k : Edge.outside(7)) {
                Edge.throwsNone(x, 0, v, k);
            }
        }
    }

    private static void letterOfEachLength() { // promise 32: 1 to 7
        String letters = "aabazab";
        for (int length = 1; length <= 7; length++) {
            String name = letters.substring(0, length);
            FinerSteps x = Kit.of("machine q;var " + name + " from 0 to 1 at 0");
            Kit.dueText("a name of " + length, Edge.name(x, 0, 0), name);
            Edge.throwsNone(x, 0, 0, length);
        }
    }

    private static void letterOverRefusals() { // promise 32: of the text that is in use
        FinerSteps x = Kit.of("machine old;var one from 0 to 1 at 0");
        Kit.tell(x, "machine new;var two from 0 to 1 at 2");
        Kit.dueText("a faulty one changes nothing", Edge.name(x, 0, -1), "old");
        Kit.dueText("a faulty one changes nothing", Edge.name(x, 0, 0), "one");
        Kit.tell(x, "machine new;var two from 0 to 1 at 1");
        Kit.dueText("the next text", Edge.name(x, 0, -1), "new");
        Kit.dueText("the next text", Edge.name(x, 0, 0), "two");
    }
}
