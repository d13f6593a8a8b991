import java.math.BigInteger;

/** Boundary cases of promises 22 to 26: the run, by hand and by lot, and what stands beside it. */
public final class RunEdgesTest {
    private static final String A = "machine a;var n from 0 to 3 at 0";
    /** An event with picks, one that can be but gives no state, one that can't be; a finer machine. */
    private static final String TWO = A + ";event go any 2 to 4 when n < 2 do n = pick - 1;event off when n < 3 do n = n + 9;"
            + "event never when 1 = 0 do n = 0;machine b;var x from 0 to 3 at 0;law x = n;"
            + "event hop of go any 1 to 3 when x < 2 do x = pick;event idle when 1 = 1 do x = x";
    /** Beside its run there may be any number of states, up to all hundred. */
    private static final String WIDE = "machine a;var n from 0 to 9 at 4;var m from 0 to 9 at 2;"
            + "event p any 0 to 9 when 1 = 1 do n = pick;event q any 0 to 9 when 1 = 1 do m = pick;"
            + "machine b;var x from 0 to 2 at 0;law not x = 1;law x < 2 or m = 9;"
            + "event r of p when 1 = 1 do x = 0;event s of q when 1 = 1 do x = 0;event t when 1 = 1 do x = 1;"
            + "event u when 1 = 1 do x = 2";

    public static void main(String[] args) {
        runOfNone();
        runAtTheEnds();
        runAnew();
        runRefusedLeavesTheOldOne();
        stepWithoutARun();
        stepOfNone();
        stepByNoPick();
        stepThatCantBe();
        stepThatGivesNoState();
        stepOfWhatIsAside();
        refusalsOfStepInOrder();
        stepManyTimes();
        nowOfNone();
        nowAtTheBeginning();
        nowOfTheEventsThatMay();
        besideOfNone();
        besideTheFirst();
        besideAtTheBeginning();
        besideOneTenAll();
        besideNewEvents();
        besideComesToNone();
        besideActs();
        drawsWithoutARun();
        drawsOfTooFewOrTooMany();
        drawsBySeedsAtTheEnds();
        drawsThatEnd();
        drawsWithNoneThatMay();
        drawsOfOneAlone();
        drawsInOrder();
        drawsGoOnFromWhereItIs();
        drawsMoveWhatIsBeside();
        Kit.end();
    }

    private static void runOfNone() { // promise 22
        FinerSteps x = Kit.of(TWO);
        for (int m : Edge.outside(2)) {
            Edge.refused(x, 1, "run(" + m + ")", y -> y.run(m));
        }
        Edge.refused(x, 1, "and there is no run", y -> y.now(0));
    }

    private static void runAtTheEnds() { // promise 22: BEGIN, the first state or the last
        Edge.answers(Kit.of("machine a;var n from 0 to 9 at 0;var m from 0 to 9 at 0"), 0, "run(0)", y -> y.run(0));
        Edge.answers(Kit.of("machine a;var n from 0 to 9 at 9;var m from 0 to 9 at 9"), 99, "run(0)", y -> y.run(0));
        Edge.answers(Kit.of("machine a;var n from 9 to 9 at 9"), 0, "run(0)", y -> y.run(0));
        Edge.answers(Kit.of("machine a;var n from 0 to 1 at 1;law n = 0"), 1, "run(0) from what isn't sound", y -> y.run(0));
    }

    private static void runAnew() { // promise 22: another one is gone
        FinerSteps x = Kit.of(TWO);
        x.run(1);
        x.step(0, 2);
        x.step(1, 0);
        Edge.answers(x, 0, "run(1) again", y -> y.run(1));
        dueNow(x, 1, 0, 0, 1, 3);
        Edge.answers(x, 0, "run(0)", y -> y.run(0));
        dueNow(x, 0, 0, 0, 0, 1);
    }

    private static void runRefusedLeavesTheOldOne() { // promise 22
        FinerSteps x = Kit.of(TWO);
        x.run(1);
        x.step(0, 2);
        for (int m : Edge.outside(2)) {
            Edge.refused(x, 1, "run(" + m + ")", y -> y.run(m));
        }
        dueNow(x, 1, 2, 1, 1, 2);
    }

    private static void dueNow(FinerSteps x, int... due) {
        for (int what = 0; what < 5; what++) {
            int asked = what;
            Edge.answers(x, due[what], "now(" + what + ")", y -> y.now(asked));
        }
    }

    private static void stepWithoutARun() { // promise 23
        FinerSteps x = Kit.of(TWO);
        Edge.refused(x, 1, "step(0, 2)", y -> y.step(0, 2));
        Edge.refused(x, 1, "step(0, 9)", y -> y.step(0, 9));
        Edge.refused(x, 1, "step(9, 9)", y -> y.step(9, 9));
        x.run(0);
        Kit.tell(x, TWO);
        Edge.refused(x, 1, "step(0, 2) behind machines()", y -> y.step(0, 2));
    }

    private static void stepOfNone() { // promise 23
        FinerSteps x = Kit.of(TWO);
        x.run(0);
        for (int e : Edge.outside(3)) {
            Edge.refused(x, 1, "step(" + e + ", 0)", y -> y.step(e, 0));
        }
        x.run(1);
        for (int e : Edge.outside(2)) {
            Edge.refused(x, 1, "step(" + e + ", 0): the run's machine has two", y -> y.step(e, 0));
        }
        FinerSteps none = Kit.of(A);
        none.run(0);
        Edge.refused(none, 1, "no event: step(0, 0)", y -> y.step(0, 0));
    }

    private static void stepByNoPick() { // promise 23
        FinerSteps x = Kit.of(TWO);
        x.run(0);
        for (int pick : new int[] {Edge.LEAST, -1, 0, 1, 5, 99, Edge.MOST}) {
            Edge.refused(x, 2, "any 2 to 4: step(0, " + pick + ")", y -> y.step(0, pick));
        }
        for (int pick : Edge.outside(1)) {
            Edge.refused(x, 2, "without any: step(1, " + pick + ")", y -> y.step(1, pick));
        }
        Edge.answers(x, 1, "step(0, 2)", y -> y.step(0, 2));
        Edge.answers(x, 3, "step(0, 4)", y -> y.step(0, 4));
    }

    private static void stepThatCantBe() { // promise 23
        FinerSteps x = Kit.of(TWO);
        x.run(0);
        Edge.refused(x, 5, "step(2, 0)", y -> y.step(2, 0));
        x.step(0, 4);
        for (int pick = 2; pick <= 4; pick++) {
            int by = pick;
            Edge.refused(x, 5, "step(0, " + pick + ")", y -> y.step(0, by));
        }
        dueNow(x, 0, 3, 1, 0, 0);
    }

    private static void stepThatGivesNoState() { // promise 23
        FinerSteps x = Kit.of(TWO);
        x.run(0);
        Edge.refused(x, 5, "step(1, 0): above HIGH", y -> y.step(1, 0));
        FinerSteps z = Kit.of("machine a;var n from 2 to 3 at 2;event down any 0 to 2 when 1 = 1 do n = n - pick");
        z.run(0);
        Edge.refused(z, 5, "step(0, 1): below LOW", y -> y.step(0, 1));
        Edge.answers(z, 0, "step(0, 0): to itself", y -> y.step(0, 0));
        dueNow(z, 0, 0, 1, 0, 1);
    }

    private static void stepOfWhatIsAside() { // promise 23: an event put aside can never be
        FinerSteps x = Kit.of(TWO);
        x.run(1);
        x.aside(1, 1, true);
        Edge.refused(x, 5, "step(1, 0)", y -> y.step(1, 0));
        x.aside(1, 1, false);
        Edge.answers(x, 0, "step(1, 0)", y -> y.step(1, 0));
    }

    private static void refusalsOfStepInOrder() { // 1, then 2, then 5
        FinerSteps x = Kit.of(TWO);
        x.run(0);
        Edge.refused(x, 1, "step(3, 9)", y -> y.step(3, 9));
        Edge.refused(x, 2, "step(2, 9)", y -> y.step(2, 9));
        Edge.refused(x, 5, "step(2, 0)", y -> y.step(2, 0));
        x.aside(0, 0, true);
        Edge.refused(x, 2, "step(0, 1) aside", y -> y.step(0, 1));
        Edge.refused(x, 5, "step(0, 2) aside", y -> y.step(0, 2));
    }

    private static void stepManyTimes() { // promises 23, 24: all calls that an object has
        FinerSteps x = Kit.of(TWO);
        x.run(1);
        for (int i = 1; i <= 400; i++) {
            Kit.due("step(1, 0)", x.step(1, 0), 0);
        }
        dueNow(x, 1, 0, 400, 1, 3);
    }

    private static void nowOfNone() { // promise 24
        FinerSteps x = Kit.of(TWO);
        for (int what = 0; what < 5; what++) {
            int asked = what;
            Edge.refused(x, 1, "no run: now(" + what + ")", y -> y.now(asked));
        }
        x.run(0);
        for (int what : Edge.outside(5)) {
            Edge.refused(x, 1, "now(" + what + ")", y -> y.now(what));
        }
    }

    private static void nowAtTheBeginning() { // promise 24
        FinerSteps x = Kit.of("machine a;var n from 0 to 3 at 3;machine b;var x from 0 to 3 at 2;machine c;var y from 0 to 3 at 1");
        for (int m = 0; m < 3; m++) {
            x.run(m);
            dueNow(x, m, 3 - m, 0, m == 0 ? 0 : 1, 0);
        }
    }

    private static void nowOfTheEventsThatMay() { // promise 24: bits; by some pick both can be and give a state
        FinerSteps x = Kit.of("machine a;var n from 0 to 1 at 0;event p when 1 = 1 do n = 0;event q when 1 = 1 do n = 0;"
                + "event r any 90 to 99 when pick = 99 do n = 0;event s when 1 = 1 do n = 1");
        x.run(0);
        Edge.answers(x, 15, "all four", y -> y.now(4));
        for (int e = 0; e < 4; e++) {
            x.aside(0, e, true);
            int left = 15 - (2 << e) + 1;
            Edge.answers(x, left, "less those aside", y -> y.now(4));
        }
        FinerSteps z = Kit.of("machine a;var n from 0 to 3 at 0;event p any 0 to 9 when pick > 3 do n = pick;"
                + "event q any 0 to 9 when pick > 2 do n = pick;event r when n > 0 do n = 0;event s when n < 1 do n = 4");
        z.run(0);
        Edge.answers(z, 2, "q alone, by 3", y -> y.now(4));
    }

    private static void besideOfNone() { // promise 25
        FinerSteps x = Kit.of(TWO);
        for (int i : new int[] {Edge.LEAST, -1, 0, 1, Edge.MOST}) {
            Edge.refused(x, 1, "no run: beside(" + i + ")", y -> y.beside(i));
        }
        x.run(1);
        for (int i : new int[] {Edge.LEAST, -1}) {
            Edge.refused(x, 1, "beside(" + i + ")", y -> y.beside(i));
        }
    }

    private static void dueBeside(FinerSteps x, int... due) {
        Edge.answers(x, due.length, "now(3)", y -> y.now(3));
        for (int i = 0; i < due.length; i++) {
            int asked = i;
            Edge.answers(x, due[i], "beside(" + i + ")", y -> y.beside(asked));
        }
        for (int i : new int[] {due.length, due.length + 1, Edge.MOST}) {
            Edge.answers(x, -2, "beside(" + i + ")", y -> y.beside(i));
        }
    }

    private static void besideTheFirst() { // BESIDE machine 0: none
        FinerSteps x = Kit.of(TWO);
        x.run(0);
        dueBeside(x);
        x.step(0, 2);
        dueBeside(x);
        x.draws(3, 7);
        dueBeside(x);
    }

    private static void besideAtTheBeginning() { // first its BEGIN, if that is glued
        FinerSteps x = Kit.of(TWO);
        x.run(1);
        dueBeside(x, 0);
        FinerSteps law = Kit.of(A + ";machine b;var x from 0 to 3 at 1;law x = n;event e when 1 = 1 do x = 0");
        law.run(1);
        dueBeside(law);
        law.step(0, 0);
        dueBeside(law);
        FinerSteps unsound = Kit.of(A + ";law n > 0;machine b;var x from 0 to 3 at 0");
        unsound.run(1);
        dueBeside(unsound);
        FinerSteps more = Kit.of(A + ";machine b;var x from 0 to 3 at 0;law x < 1");
        more.run(1);
        dueBeside(more, 0);
        Kit.due("though four are glued", more.beneath(1, 0, 3), 3);
        FinerSteps last = Kit.of("machine a;var n from 0 to 9 at 9;var m from 0 to 9 at 9;machine b;var x from 0 to 3 at 0");
        last.run(1);
        dueBeside(last, 99);
    }

    private static int[] all(int count, int from, int by) {
        int[] out = new int[count];
        for (int i = 0; i < count; i++) {
            out[i] = from + by * i;
        }
        return out;
    }

    private static void besideOneTenAll() { // those that the other gives from one that was beside, by each pick
        FinerSteps x = Kit.of(WIDE);
        x.run(1);
        dueBeside(x, 42);
        x.step(0, 0);
        dueBeside(x, all(10, 2, 10));
        x.step(1, 0);
        dueBeside(x, all(100, 0, 1));
        x.step(3, 0);
        dueBeside(x, all(10, 9, 10));
        x.run(1);
        x.step(1, 0);
        dueBeside(x, all(10, 40, 1));
    }

    private static void besideNewEvents() { // of a new one those that were beside and are glued still
        FinerSteps x = Kit.of(A + ";event go any 0 to 3 when 1 = 1 do n = pick;machine b;var x from 0 to 3 at 0;law not n < x;"
                + "event hop of go when 1 = 1 do x = x;event up when x < 3 do x = x + 1;event down when x > 0 do x = x - 1");
        x.run(1);
        x.step(0, 0);
        dueBeside(x, 0, 1, 2, 3);
        x.step(1, 0);
        dueBeside(x, 1, 2, 3);
        x.step(1, 0);
        dueBeside(x, 2, 3);
        x.step(2, 0);
        dueBeside(x, 2, 3);
        x.step(0, 0);
        dueBeside(x, 1, 2, 3);
    }

    private static void besideComesToNone() { // none comes of none
        FinerSteps x = Kit.of(WIDE);
        x.run(1);
        x.step(0, 0);
        x.step(2, 0);
        dueBeside(x);
        x.step(0, 0);
        dueBeside(x);
        x.step(3, 0);
        dueBeside(x);
        x.run(1);
        dueBeside(x, 42);
    }

    private static void besideActs() { // what is aside ahead gives none; acts alone move nothing
        FinerSteps x = Kit.of(WIDE);
        x.run(1);
        x.aside(0, 0, true);
        dueBeside(x, 42);
        x.step(1, 0);
        dueBeside(x, all(10, 40, 1));
        x.aside(0, 1, true);
        dueBeside(x, all(10, 40, 1));
        x.step(0, 0);
        dueBeside(x);
    }

    private static void drawsWithoutARun() { // promise 26: 1 ahead of 2
        FinerSteps x = Kit.of(TWO);
        Edge.refused(x, 1, "draws(1, 1)", y -> y.draws(1, 1));
        Edge.refused(x, 1, "draws(0, 1)", y -> y.draws(0, 1));
        Edge.refused(x, 1, "draws(1, -1)", y -> y.draws(1, -1));
    }

    private static void drawsOfTooFewOrTooMany() { // promise 26: n 1 .. 40, a seed of 0 or more
        FinerSteps x = Kit.of(TWO);
        x.run(1);
        x.step(1, 0);
        for (int n : new int[] {Edge.LEAST, -1, 0, 41, 42, Edge.MOST}) {
            Edge.refused(x, 2, "draws(" + n + ", 1)", y -> y.draws(n, 1));
        }
        for (int seed : new int[] {Edge.LEAST, Edge.LEAST + 1, -2, -1}) {
            Edge.refused(x, 2, "draws(1, " + seed + ")", y -> y.draws(1, seed));
        }
        Edge.refused(x, 2, "draws(0, -1)", y -> y.draws(0, -1));
        Edge.answers(x, 1, "draws(1, 0)", y -> y.draws(1, 0));
        Edge.answers(x, 40, "draws(40, 0)", y -> y.draws(40, 0));
        Kit.due("now(2)", x.now(2), 42);
    }

    private static int draw(int seed, int times, int of) {
        BigInteger x = BigInteger.valueOf(seed);
        for (int i = 0; i < times; i++) {
            x = x.multiply(BigInteger.valueOf(1103515245)).add(BigInteger.valueOf(12345)).mod(BigInteger.TWO.pow(31));
        }
        return x.divide(BigInteger.valueOf(65536)).mod(BigInteger.valueOf(of)).intValue();
    }

    private static void drawsBySeedsAtTheEnds() { // promise 26: modulo 2 to the 31
        FinerSteps x = Kit.of("machine a;var n from 0 to 9 at 0;event e any 0 to 9 when 1 = 1 do n = pick");
        for (int seed : new int[] {0, 1, 2, 65535, 65536, 1 << 30, Edge.MOST - 1, Edge.MOST}) {
            x.run(0);
            for (int n : new int[] {1, 2, 39, 40}) {
                Edge.answers(x, n, "draws(" + n + ", " + seed + ")", y -> y.draws(n, seed));
                Kit.due("where it is by " + n + " of " + seed, x.now(1), draw(seed, n, 10));
            }
        }
    }

    private static void drawsThatEnd() { // promise 26: none: it ends: how many it made
        FinerSteps x = Kit.of(A + ";event e when n < 3 do n = n + 1;event off when 1 = 1 do n = 9");
        for (int n : new int[] {1, 2, 3, 4, 5, 40}) {
            x.run(0);
            Edge.answers(x, Math.min(n, 3), "draws(" + n + ", 5)", y -> y.draws(n, 5));
            dueNow(x, 0, Math.min(n, 3), Math.min(n, 3), 0, n < 3 ? 1 : 0);
        }
    }

    private static void drawsWithNoneThatMay() { // promise 26: 0 is no refusal
        FinerSteps none = Kit.of(A);
        none.run(0);
        Edge.answers(none, 0, "no event: draws(40, 1)", y -> y.draws(40, 1));
        FinerSteps off = Kit.of(A + ";event off when 1 = 1 do n = 9;event never when 1 = 0 do n = 0");
        off.run(0);
        Edge.answers(off, 0, "none that gives a state: draws(1, 1)", y -> y.draws(1, 1));
        FinerSteps aside = Kit.of(A + ";event stay when 1 = 1 do n = n");
        aside.run(0);
        aside.aside(0, 0, true);
        Edge.answers(aside, 0, "all aside: draws(1, 1)", y -> y.draws(1, 1));
        dueNow(aside, 0, 0, 0, 0, 0);
    }

    private static void drawsOfOneAlone() { // promise 26: a draw of one is a draw, so the next one is the second
        FinerSteps x = Kit.of("machine a;var n from 0 to 9 at 0;var k from 0 to 1 at 0;event once when k = 0 do k = 1;"
                + "event e any 0 to 9 when k = 1 do n = pick");
        for (int seed = 0; seed < 20; seed++) {
            x.run(0);
            x.draws(2, seed);
            Kit.due("the second draw of " + seed, x.now(1), draw(seed, 2, 10) * 2 + 1);
        }
    }

    private static void drawsInOrder() { // promise 26: by numbers, by picks; only those that may
        FinerSteps x = Kit.of("machine a;var n from 0 to 9 at 0;event p any 5 to 9 when pick > 7 do n = pick - 8;"
                + "event q any 0 to 9 when pick < 3 do n = pick * 8 + 2;event r when 1 = 1 do n = 3;"
                + "event s any 90 to 99 when pick > 97 do n = pick - 94");
        int[] due = {0, 1, 2, 3, 4, 5};
        boolean[] seen = new boolean[6];
        for (int seed = 0; seed < 60; seed++) {
            x.run(0);
            x.draws(1, seed);
            int chosen = draw(seed, 1, 6);
            seen[chosen] = true;
            Kit.due("draw " + chosen + " of six, seed " + seed, x.now(1), due[chosen]);
        }
        for (int i = 0; i < 6; i++) {
            Kit.due("seed for " + i, seen[i] ? 1 : 0, 1);
        }
        x.aside(0, 1, true);
        for (int seed = 0; seed < 20; seed++) {
            x.run(0);
            x.draws(1, seed);
            int[] left = {0, 1, 3, 4, 5};
            Kit.due("of five, seed " + seed, x.now(1), left[draw(seed, 1, 5)]);
        }
    }

    private static void drawsGoOnFromWhereItIs() { // promise 26: the run goes on, the seed is told anew
        FinerSteps x = Kit.of("machine a;var n from 0 to 9 at 0;var m from 0 to 9 at 0;event e any 0 to 9 when 1 = 1 do n = pick, m = n");
        x.run(0);
        x.draws(1, 3);
        x.draws(1, 8);
        Kit.due("both", x.now(1), draw(8, 1, 10) * 10 + draw(3, 1, 10));
        Kit.due("two events", x.now(2), 2);
        x.step(0, 7);
        Kit.due("by hand", x.now(1), 70 + draw(8, 1, 10));
        Kit.due("three events", x.now(2), 3);
    }

    private static void drawsMoveWhatIsBeside() { // promise 26: as step() does
        for (int seed = 0; seed < 30; seed++) {
            FinerSteps x = Kit.of(WIDE);
            FinerSteps y = Kit.of(WIDE);
            x.run(1);
            y.run(1);
            x.draws(4, seed);
            for (int i = 1; i <= 4; i++) {
                y.step(draw(seed, i, 4), 0);
            }
            for (int what = 0; what < 5; what++) {
                Kit.due("now(" + what + ") by lot and by hand, seed " + seed, x.now(what), y.now(what));
            }
            for (int i = 0; i <= 100; i += 9) {
                Kit.due("beside(" + i + ") by lot and by hand, seed " + seed, x.beside(i), y.beside(i));
            }
        }
    }
}
