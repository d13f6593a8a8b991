/** Each promise by its number: ordinary calls, edges, refusals with their trouble. */
public final class PromisesTest {
    /** A counter 0 .. 5, and a finer one that has it as a sum of two. */
    private static final String SUMS = "machine top;var n from 0 to 5 at 0;law n < 6;event inc when n < 5 do n = n + 1;"
            + "event dec when n > 0 do n = n - 1;machine fin;var x from 0 to 2 at 0;var y from 0 to 3 at 0;"
            + "law n = x + y;event up of inc when x < 2 do x = x + 1;event upy of inc when y < 3 do y = y + 1;"
            + "event down of dec when x > 0 do x = x - 1;"
            + "event move when x > 0 and y < 3 do x = x - 1, y = y + 1;variant x";
    /** Machines most of whose duties fail. */
    private static final String FAILS = "machine a;var n from 0 to 3 at 0;law n < 3;event go when n < 3 do n = n + 1;"
            + "machine b;var x from 0 to 3 at 1;law x = n;event hop of go any 0 to 2 when x < 3 do x = x + pick;"
            + "event slip when x > 2 do x = 0;event far when x = 0 do x = 9;variant 2 - x";
    /** Three machines; the pair of the second goes round, the third adds a flag; picks from 3 on. */
    private static final String THREE = "machine one;var p from 2 to 4 at 3;event a any 2 to 4 when not p = pick do p = pick;"
            + "machine two;var q from 0 to 2 at 1;law q + 2 = p or q = 0 and p = 4;"
            + "event b of a any 3 to 5 when pick - 3 < 3 do q = pick - 3;"
            + "machine three;var r from 0 to 2 at 1;var flag from 0 to 1 at 0;law r = q;"
            + "event c of b when flag = 1 do r = 2 - r, flag = 0;event set when flag = 0 do flag = 1;variant 1 - flag";

    public static void main(String[] args) {
        newObject();
        feedAndSize();
        machinesAndFaults();
        machineAndVariable();
        eventTold();
        valueAndSound();
        gluedAndBeneath();
        canAndGives();
        wrapAround();
        variant();
        duties();
        lessAndStrong();
        beginsAndGoesOn();
        shownAndWritten();
        openAndCases();
        runByHand();
        beside();
        draws();
        ways();
        aside();
        letters();
        troubleKeepers();
        Kit.end();
    }

    private static void newObject() { // promise 1
        FinerSteps x = new FinerSteps();
        Kit.due("NONE", FinerSteps.NONE, -1);
        Kit.due("new: trouble()", x.trouble(), 0);
        Kit.due("new: fault()", x.fault(), 0);
        Kit.due("new: where()", x.where(), -1);
        Kit.due("new: size()", x.size(), 0);
        Kit.due(x, "new: machine(0, 0)", x.machine(0, 0), -1, 1);
        Kit.due(x, "new: run(0)", x.run(0), -1, 1);
        Kit.due(x, "new: shown(0)", x.shown(0), -2, 0);
        Kit.due(x, "new: octet(0)", x.octet(0), -2, 0);
        Kit.due(x, "new: write()", x.write(), -1, 5);
        Kit.dueNoLetter(x, 0, -1, 0);
    }

    private static void feedAndSize() { // promises 2, 33
        FinerSteps x = new FinerSteps();
        for (int i = 1; i <= 30; i++) {
            Kit.due("feed " + i, x.feed(0x20202020, 0x20202020, 0x20202020, 0x20202020, 0x20202020), 20 * i);
        }
        Kit.due(x, "feed 31", x.feed(0, 0, 0, 0, 0), -1, 0);
        Kit.due("size()", x.size(), 600);
        Kit.due(x, "machines(601)", x.machines(601), -1, 2);
        Kit.due("size()", x.size(), 600);
        Kit.due(x, "machines(600)", x.machines(600), -1, 4);
        Kit.due("where()", x.where(), 600);
        Kit.due("size()", x.size(), 0);
        Kit.due("feed", x.feed('m' << 24 | 'a' << 16 | 'c' << 8 | 'h', -1, 0, 0, 0), 20);
        Kit.due(x, "machines(20)", x.machines(20), -1, 4);
        Kit.due("fault()", x.fault(), 1);
        Kit.due("where()", x.where(), 0);
        Kit.due("feed", x.feed('m' << 24 | 'a' << 16 | 'c' << 8 | 'h', 'i' << 24 | 'n' << 16 | 'e' << 8 | 'a', -1, 0, 0), 20);
        x.machines(20);
        Kit.due("where(): all eight letters stand together", x.where(), 0);
    }

    private static void machinesAndFaults() { // promises 3, 4, 5
        FinerSteps x = Kit.of(SUMS);
        Kit.due("fault()", x.fault(), 0);
        Kit.due("where()", x.where(), -1);
        x.run(1);
        x.aside(1, 0, true);
        x.duty(1, 0, 4);
        Kit.feed(x, "law");
        Kit.due(x, "machines(-1)", x.machines(-1), -1, 2);
        Kit.due(x, "machines(21)", x.machines(21), -1, 2);
        Kit.due("fault() behind a 2", x.fault(), 0);
        Kit.due("size() behind a 2", x.size(), 20);
        Kit.due(x, "machines(3)", x.machines(3), -1, 4);
        Kit.due("fault()", x.fault(), 5);
        Kit.due("where()", x.where(), 0);
        Kit.due("feed leaves trouble", x.feed(0, 0, 0, 0, 0), 20);
        Kit.due("where() behind feed", x.where(), 0);
        Kit.due(x, "machines(99)", x.machines(99), -1, 2);
        Kit.due("fault() stays", x.fault(), 5);
        Kit.due("where() but by 4", x.where(), -1);
        Kit.due("the machines stay", x.machine(1, 2), 4);
        Kit.due("the run stays", x.now(0), 1);
        Kit.due("what is put aside stays", x.event(1, 0, 4), 1);
        x.machines(0);
        Kit.due("machines(0): fault()", x.fault(), 1);
        Kit.due("machines(0): where()", x.where(), 0);
        Kit.due("machines(0): size()", x.size(), 0);
        Kit.due("again", Kit.tell(x, SUMS), 2);
        Kit.due("fault()", x.fault(), 0);
        Kit.due(x, "no run", x.now(0), -1, 1);
        Kit.due("none aside", x.event(1, 0, 4), 0);
        Kit.due("none shown", x.shown(0), -2);
        Kit.feed(x, THREE + ";;;");
        Kit.due("only the first n bytes", x.machines(THREE.length()), 3);
        Kit.due("size()", x.size(), 0);
    }

    private static void machineAndVariable() { // promises 6, 7
        FinerSteps x = Kit.of(THREE);
        int[] one = {1, 0, 1, 3, 1, 0, 3, 0, 1};
        int[] two = {1, 1, 1, 3, 1, 0, 3, 4, 0};
        int[] three = {2, 1, 2, 6, 2, 1, 6, 6, 1};
        for (int what = 0; what < 9; what++) {
            Kit.due(x, "machine(0, " + what + ")", x.machine(0, what), one[what], 0);
            Kit.due(x, "machine(1, " + what + ")", x.machine(1, what), two[what], 0);
            Kit.due(x, "machine(2, " + what + ")", x.machine(2, what), three[what], 0);
        }
        Kit.due(x, "machine(3, 0)", x.machine(3, 0), -1, 1);
        Kit.due(x, "machine(-1, 0)", x.machine(-1, 0), -1, 1);
        Kit.due(x, "machine(0, 9)", x.machine(0, 9), -1, 1);
        Kit.due(x, "machine(0, -1)", x.machine(0, -1), -1, 1);
        Kit.due(x, "variable(0, 0, 0)", x.variable(0, 0, 0), 2, 0);
        Kit.due(x, "variable(0, 0, 1)", x.variable(0, 0, 1), 4, 0);
        Kit.due(x, "variable(0, 0, 2)", x.variable(0, 0, 2), 3, 0);
        Kit.due(x, "variable(2, 1, 1)", x.variable(2, 1, 1), 1, 0);
        Kit.due(x, "variable(2, 2, 1)", x.variable(2, 2, 1), -1, 1);
        Kit.due(x, "variable(2, -1, 1)", x.variable(2, -1, 1), -1, 1);
        Kit.due(x, "variable(0, 0, 3)", x.variable(0, 0, 3), -1, 1);
        Kit.due(x, "variable(0, 0, -1)", x.variable(0, 0, -1), -1, 1);
        Kit.due(x, "variable(3, 0, 0)", x.variable(3, 0, 0), -1, 1);
    }

    private static void eventTold() { // promise 8
        FinerSteps x = Kit.of(THREE);
        int[] b = {0, 3, 5, 1, 0};
        int[] c = {0, 0, 0, 3, 0};
        int[] set = {-2, 0, 0, 2, 0};
        for (int what = 0; what < 5; what++) {
            Kit.due(x, "event(1, 0, " + what + ")", x.event(1, 0, what), b[what], 0);
            Kit.due(x, "event(2, 0, " + what + ")", x.event(2, 0, what), c[what], 0);
            Kit.due(x, "event(2, 1, " + what + ")", x.event(2, 1, what), set[what], 0);
        }
        Kit.due("event(0, 0, 0)", x.event(0, 0, 0), -2);
        Kit.due(x, "event(2, 2, 0)", x.event(2, 2, 0), -1, 1);
        Kit.due(x, "event(2, -1, 0)", x.event(2, -1, 0), -1, 1);
        Kit.due(x, "event(3, 0, 0)", x.event(3, 0, 0), -1, 1);
        Kit.due(x, "event(0, 0, 5)", x.event(0, 0, 5), -1, 1);
        Kit.due(x, "event(0, 0, -1)", x.event(0, 0, -1), -1, 1);
    }

    private static void valueAndSound() { // promises 9, 10
        FinerSteps x = Kit.of("machine a;var u from 1 to 2 at 2;var v from 3 to 5 at 4;var w from 7 to 8 at 7;law u + v < 7");
        Kit.due("machine(0, 3)", x.machine(0, 3), 12);
        Kit.due("machine(0, 4)", x.machine(0, 4), 8);
        int state = 0;
        int sounds = 0;
        for (int u = 1; u <= 2; u++) {
            for (int v = 3; v <= 5; v++) {
                for (int w = 7; w <= 8; w++, state++) {
                    Kit.due("u in " + state, x.value(0, state, 0), u);
                    Kit.due("v in " + state, x.value(0, state, 1), v);
                    Kit.due("w in " + state, x.value(0, state, 2), w);
                    Kit.due(x, "sound(0, " + state + ")", x.sound(0, state), u + v < 7 ? 1 : 0, 0);
                    sounds += u + v < 7 ? 1 : 0;
                }
            }
        }
        Kit.due("machine(0, 6)", x.machine(0, 6), sounds);
        Kit.due(x, "value(0, 12, 0)", x.value(0, 12, 0), -1, 1);
        Kit.due(x, "value(0, -1, 0)", x.value(0, -1, 0), -1, 1);
        Kit.due(x, "value(0, 0, 3)", x.value(0, 0, 3), -1, 1);
        Kit.due(x, "value(1, 0, 0)", x.value(1, 0, 0), -1, 1);
        Kit.due(x, "sound(0, 12)", x.sound(0, 12), -1, 1);
        Kit.due(x, "sound(1, 0)", x.sound(1, 0), -1, 1);
        FinerSteps y = Kit.of(FAILS);
        Kit.due("the law holds, but what is ahead isn't sound", y.sound(1, 3), 0);
        Kit.due("sound(1, 2)", y.sound(1, 2), 1);
    }

    private static void gluedAndBeneath() { // promises 11, 12
        FinerSteps x = Kit.of(THREE);
        Kit.due(x, "glued(1, 0, 0)", x.glued(1, 0, 0), 1, 0);
        Kit.due(x, "glued(1, 1, 0)", x.glued(1, 1, 0), 0, 0);
        Kit.due(x, "glued(1, 2, 0)", x.glued(1, 2, 0), 1, 0);
        Kit.due(x, "glued(1, 2, 2)", x.glued(1, 2, 2), 1, 0);
        Kit.due(x, "glued(0, 0, 0)", x.glued(0, 0, 0), -1, 1);
        Kit.due(x, "glued(1, 3, 0)", x.glued(1, 3, 0), -1, 1);
        Kit.due(x, "glued(1, -1, 0)", x.glued(1, -1, 0), -1, 1);
        Kit.due(x, "glued(1, 0, 3)", x.glued(1, 0, 3), -1, 1);
        Kit.due(x, "glued(3, 0, 0)", x.glued(3, 0, 0), -1, 1);
        Kit.due(x, "beneath(1, 0, 0)", x.beneath(1, 0, 0), 0, 0);
        Kit.due(x, "beneath(1, 0, 1)", x.beneath(1, 0, 1), 2, 0);
        Kit.due(x, "beneath(1, 0, 2)", x.beneath(1, 0, 2), -2, 0);
        Kit.due(x, "beneath(1, 0, big)", x.beneath(1, 0, Integer.MAX_VALUE), -2, 0);
        Kit.due(x, "beneath(1, 0, -1)", x.beneath(1, 0, -1), -1, 1);
        Kit.due(x, "beneath(0, 0, 0)", x.beneath(0, 0, 0), -1, 1);
        Kit.due(x, "beneath(1, 3, 0)", x.beneath(1, 3, 0), -1, 1);
        FinerSteps y = Kit.of("machine a;var n from 0 to 9 at 0;var m from 0 to 9 at 0;machine b;"
                + "var x from 0 to 9 at 0;var y from 0 to 9 at 0;law n = x and m = y");
        for (int s = 0; s < 100; s++) {
            Kit.due("beneath(1, " + s + ", 0) of a hundred", y.beneath(1, s, 0), s);
            Kit.due("beneath(1, " + s + ", 1) of a hundred", y.beneath(1, s, 1), -2);
        }
        Kit.due("machine(1, 7)", y.machine(1, 7), 100);
    }

    private static void canAndGives() { // promises 13, 14
        FinerSteps x = Kit.of(THREE);
        Kit.due(x, "can(0, 0, 0, 2)", x.can(0, 0, 0, 2), 0, 0);
        Kit.due(x, "can(0, 0, 0, 3)", x.can(0, 0, 0, 3), 1, 0);
        Kit.due(x, "can(0, 0, 0, 1)", x.can(0, 0, 0, 1), -1, 2);
        Kit.due(x, "can(0, 0, 0, 5)", x.can(0, 0, 0, 5), -1, 2);
        Kit.due(x, "can(0, 0, 3, 5)", x.can(0, 0, 3, 5), -1, 1);
        Kit.due(x, "can(0, 1, 0, 2)", x.can(0, 1, 0, 2), -1, 1);
        Kit.due(x, "can(9, 0, 0, 2)", x.can(9, 0, 0, 2), -1, 1);
        Kit.due(x, "gives(0, 0, 0, 2)", x.gives(0, 0, 0, 2), 0, 0);
        Kit.due(x, "gives(0, 0, 0, 4)", x.gives(0, 0, 0, 4), 2, 0);
        Kit.due(x, "gives(0, 0, 0, 5)", x.gives(0, 0, 0, 5), -1, 2);
        Kit.due(x, "gives(0, 0, -1, 5)", x.gives(0, 0, -1, 5), -1, 1);
        Kit.due(x, "gives(2, 0, 1, 0): at once", x.gives(2, 0, 1, 0), 4, 0);
        FinerSteps y = Kit.of("machine a;var u from 0 to 2 at 0;var v from 0 to 2 at 1;"
                + "event swap when 1 = 1 do u = v, v = u;event low when u = 9 do u = u - 1;event high when u = 0 do v = v + 1");
        Kit.due("swap: as they are ahead", y.gives(0, 0, 1, 0), 3);
        Kit.due("low gives none", y.gives(0, 1, 0, 0), -2);
        Kit.due("low gives one, though it can't be", y.gives(0, 1, 3, 0), 0);
        Kit.due("high gives none", y.gives(0, 2, 2, 0), -2);
        Kit.due("high can be, whatever it gives", y.can(0, 2, 2, 0), 1);
        y.aside(0, 2, true);
        Kit.due("put aside it can't", y.can(0, 2, 2, 0), 0);
        Kit.due("put aside it gives", y.gives(0, 2, 1, 0), 2);
    }

    private static void wrapAround() { // sums are ints; all from the left on
        FinerSteps x = Kit.of("machine a;var n from 0 to 9 at 0;variant 999 * 999 * 999 * 999;"
                + "event e when 999 * 999 * 999 * 9 < 0 do n = 9 - 2 * 3 - 1 + n * 0;"
                + "event f when not n < 1 and n < 3 or n = 9 do n = 9 - [2 - 3] * 1 - 4");
        Kit.due("variant", x.variant(0, 0), 999 * 999 * 999 * 999);
        Kit.due("can e", x.can(0, 0, 0, 0), 999 * 999 * 999 * 9 < 0 ? 1 : 0);
        Kit.due("gives e", x.gives(0, 0, 5, 0), 2);
        Kit.due("gives f", x.gives(0, 1, 5, 0), 6);
        for (int n = 0; n < 10; n++) {
            Kit.due("can f in " + n, x.can(0, 1, n, 0), n >= 1 && n < 3 || n == 9 ? 1 : 0);
        }
        FinerSteps y = Kit.of("machine a;var n from 0 to 1 at 0;event e when n = 0 or n = 1 and n = 2 do n = 0;"
                + "event f when (n = 0 or n = 1) and n = 2 do n = 0;event g when not (n = 0 and 1 = 1) do n = 0");
        Kit.due("and binds more", y.can(0, 0, 0, 0), 1);
        Kit.due("brackets", y.can(0, 1, 0, 0), 0);
        Kit.due("not of brackets", y.can(0, 2, 0, 0), 0);
        Kit.due("not of brackets", y.can(0, 2, 1, 0), 1);
    }

    private static void variant() { // promise 15
        FinerSteps x = Kit.of(FAILS);
        Kit.due(x, "variant(1, 3)", x.variant(1, 3), -1, 0);
        Kit.due(x, "variant(1, 0)", x.variant(1, 0), 2, 0);
        Kit.due(x, "variant(1, 4)", x.variant(1, 4), 0, 1);
        Kit.due(x, "variant(2, 0)", x.variant(2, 0), 0, 1);
        Kit.due(x, "variant(0, 0)", x.variant(0, 0), 0, 5);
        Kit.due(x, "variant(0, 4)", x.variant(0, 4), 0, 1);
    }

    private static void dueCase(FinerSteps x, int m, int e, int duty, int a, int s, int pick) {
        String call = "duty(" + m + ", " + e + ", " + duty + ")";
        Kit.due(x, call, x.duty(m, e, duty), 0, 0);
        Kit.due(call + ": A", x.shown(0), a);
        Kit.due(call + ": S", x.shown(1), s);
        Kit.due(call + ": PICK", x.shown(2), pick);
    }

    private static void dueHolds(FinerSteps x, int m, int e, int duty) {
        String call = "duty(" + m + ", " + e + ", " + duty + ")";
        Kit.due(x, call, x.duty(m, e, duty), 1, 0);
        Kit.due(call + ": none shown", x.shown(0), -2);
    }

    private static void duties() { // promise 16: KEEPS
        FinerSteps x = Kit.of(FAILS);
        dueCase(x, 0, 0, 0, 0, 2, 0);
        dueCase(x, 1, 0, 0, 0, 0, 0);
        dueHolds(x, 1, 1, 0);
        dueCase(x, 1, 2, 0, 0, 0, 0);
        Kit.due(x, "duty(1, 3, 0)", x.duty(1, 3, 0), -1, 1);
        Kit.due("a refusal leaves what is shown", x.shown(1), 0);
        Kit.due(x, "duty(2, 0, 0)", x.duty(2, 0, 0), -1, 1);
        Kit.due(x, "duty(0, 0, 5)", x.duty(0, 0, 5), -1, 1);
        Kit.due(x, "duty(0, 0, -1)", x.duty(0, 0, -1), -1, 1);
        Kit.due(x, "duty(0, -1, 2)", x.duty(0, -1, 2), -1, 1);
        Kit.due(x, "duty(0, -1, 3)", x.duty(0, -1, 3), 1, 0);
        FinerSteps y = Kit.of(SUMS);
        for (int e = 0; e < 4; e++) {
            for (int duty = 0; duty < 3; duty++) {
                dueHolds(y, 1, e, duty);
            }
        }
        // first by A, then by S: of (0, 1), (1, 0) all fail, and the one with the less A is shown
        FinerSteps z = Kit.of("machine a;var n from 0 to 1 at 0;machine b;var x from 0 to 1 at 1;law x + n = 1;"
                + "event e any 4 to 6 when pick > 4 do x = pick");
        dueCase(z, 1, 0, 0, 0, 1, 5);
        Kit.due("cases(1, 0, 0)", z.cases(1, 0, 0), 4);
        // a new event may not move what is ahead
        FinerSteps w = Kit.of("machine a;var n from 0 to 1 at 0;event go when n = 0 do n = 1;"
                + "machine b;var x from 0 to 1 at 0;law x = n;event sly when x = 0 do x = 1;event goes of go when x = 0 do x = 1");
        dueCase(w, 1, 0, 0, 0, 0, 0);
        dueHolds(w, 1, 1, 0);
        w.aside(0, 0, true);
        dueCase(w, 1, 1, 0, 0, 0, 0);
        dueCase(w, 1, 1, 1, 0, 0, 0);
        w.aside(1, 1, true);
        dueHolds(w, 1, 1, 0);
        dueHolds(w, 1, 1, 1);
    }

    private static void lessAndStrong() { // promise 16: STRONG, LESS
        FinerSteps x = Kit.of("machine a;var n from 0 to 3 at 0;event go any 1 to 2 when n + pick < 3 do n = n + pick;"
                + "machine b;var x from 0 to 3 at 0;law x = n;event hop of go when x < 3 do x = x + 1;"
                + "event idle when x > 1 do x = x;event never when 0 = 1 do x = 9");
        dueHolds(x, 0, 0, 1);
        dueHolds(x, 0, 0, 2);
        dueCase(x, 1, 0, 1, 2, 2, 0);
        Kit.due("cases(1, 0, 1)", x.cases(1, 0, 1), 1);
        dueHolds(x, 1, 0, 2);
        dueHolds(x, 1, 1, 1);
        dueCase(x, 1, 1, 2, 2, 2, 0);
        Kit.due("no variant: all fail", x.cases(1, 1, 2), 2);
        dueHolds(x, 1, 2, 2);
        FinerSteps y = Kit.of("machine a;var n from 0 to 0 at 0;machine b;var x from 0 to 5 at 0;"
                + "event down any 1 to 2 when x > 0 do x = x - pick;event same when x = 3 do x = 3;variant x - 1");
        // x = 1 by 1 gives 0, whose variant is -1; by 2 no state; x = 2 by 2 gives 0 too
        dueCase(y, 1, 0, 2, 0, 1, 1);
        Kit.due("cases(1, 0, 2)", y.cases(1, 0, 2), 3);
        Kit.due("cases(1, 0, 0): x = 1 by 2", y.cases(1, 0, 0), 1);
        dueCase(y, 1, 1, 2, 0, 3, 0);
        FinerSteps z = Kit.of("machine a;var n from 0 to 3 at 0;variant 0 - n;event up when n < 3 do n = n + 1");
        dueHolds(z, 0, 0, 2);
        // what earlier texts left may not stand in for a variant
        String down = "machine a;var n from 0 to 3 at 0;machine b;var x from 0 to 3 at 3;event down when x > 0 do x = x - 1";
        Kit.tell(z, down + ";variant x");
        dueHolds(z, 1, 0, 2);
        Kit.tell(z, down + ";variant x");
        Kit.tell(z, down);
        dueCase(z, 1, 0, 2, 0, 1, 0);
        Kit.due("cases(1, 0, 2) without a variant", z.cases(1, 0, 2), 12);
        Kit.due(z, "variant(1, 3) without one", z.variant(1, 3), 0, 5);
    }

    private static void beginsAndGoesOn() { // promise 16: BEGINS, GOES ON
        FinerSteps x = Kit.of("machine a;var n from 0 to 3 at 3;law n < 3;event go when n = 0 do n = 9;"
                + "event stop when n = 1 do n = 1;machine b;var x from 0 to 3 at 1;law x < n + 1;event on of go when x = 1 do x = 0");
        dueCase(x, 0, 0, 3, 0, 3, 0);
        dueCase(x, 0, 7, 4, 0, 2, 0);
        dueCase(x, 1, 0, 3, 3, 1, 0);
        // pairs (0,0) (1,0) (1,1) (2,..); ahead goes on in 0 and 1; b goes on in 1 alone
        dueCase(x, 1, 0, 4, 0, 0, 0);
        x.aside(0, 0, true);
        dueCase(x, 1, 0, 4, 1, 0, 0);
        x.aside(0, 1, true);
        dueHolds(x, 1, 0, 4);
        dueCase(x, 0, 0, 4, 0, 0, 0);
        FinerSteps y = Kit.of(FAILS);
        dueHolds(y, 0, 0, 3);
        dueHolds(y, 0, 0, 4);
        dueCase(y, 1, 0, 3, 0, 1, 0);
        dueHolds(y, 1, 0, 4);
    }

    private static void shownAndWritten() { // promises 17, 20, 21
        FinerSteps x = Kit.of("machine a;var alpha from 1 to 2 at 1;var bb from 3 to 4 at 3;event go when alpha = 2 do bb = 3;"
                + "machine b;var c from 0 to 2 at 0;law bb = 4;event e any 8 to 12 when c = 2 and pick > 9 do c = 3");
        dueCase(x, 1, 0, 0, 1, 2, 10);
        Kit.due(x, "write()", x.write(), 24, 0);
        Kit.dueText("octets", Kit.written(x), "alpha=1 bb=4 c=2 pick=10");
        Kit.due(x, "octet(23)", x.octet(23), '0', 0);
        Kit.due(x, "octet(24)", x.octet(24), -2, 0);
        Kit.due(x, "octet(-1)", x.octet(-1), -1, 1);
        Kit.due(x, "shown(3)", x.shown(3), -1, 1);
        Kit.due(x, "shown(-1)", x.shown(-1), -1, 1);
        x.aside(1, 0, true);
        Kit.due("it stays shown", x.shown(2), 10);
        dueHolds(x, 1, 0, 0);
        Kit.due(x, "write() of none", x.write(), -1, 5);
        Kit.dueText("what was written stays", Kit.written(x), "alpha=1 bb=4 c=2 pick=10");
        dueCase(x, 0, 0, 4, 0, 0, 0);
        Kit.due("write()", x.write(), 19);
        Kit.dueText("octets of machine 0", Kit.written(x), "alpha=1 bb=3 pick=0");
        x.open(1);
        x.cases(1, 0, 0);
        Kit.due("open, cases show nothing", x.shown(1), 0);
        Kit.tell(x, "machine z");
        Kit.due("a fault leaves what is shown", x.shown(1), 0);
        Kit.due("write()", x.write(), 19);
        Kit.tell(x, FAILS);
        Kit.due("machines() ends it", x.shown(1), -2);
        Kit.due(x, "write()", x.write(), -1, 5);
        Kit.dueText("what was written stays", Kit.written(x), "alpha=1 bb=3 pick=0");
        String most = "machine a;var aaaaaaa from 9 to 9 at 9;var bbbbbbb from 9 to 9 at 9;var ccccccc from 9 to 9 at 9;"
                + "machine b;var ddddddd from 9 to 9 at 9;var eeeeeee from 9 to 9 at 9;var fffffff from 9 to 9 at 9;"
                + "event e any 99 to 99 when 1 = 1 do fffffff = 0";
        Kit.due("the longest", Kit.tell(x, most), 2);
        dueCase(x, 1, 0, 0, 0, 0, 99);
        Kit.due("write()", x.write(), 67);
        Kit.dueText("octets", Kit.written(x), "aaaaaaa=9 bbbbbbb=9 ccccccc=9 ddddddd=9 eeeeeee=9 fffffff=9 pick=99");
    }

    private static void openAndCases() { // promises 18, 19
        FinerSteps x = Kit.of(FAILS);
        Kit.due(x, "open(0)", x.open(0), 1, 0);
        Kit.due(x, "open(1)", x.open(1), 4, 0);
        Kit.due(x, "open(2)", x.open(2), -1, 1);
        Kit.due(x, "cases(1, 0, 0)", x.cases(1, 0, 0), 7, 0);
        Kit.due(x, "cases(1, 2, 0)", x.cases(1, 2, 0), 1, 0);
        Kit.due(x, "cases(1, 2, 2)", x.cases(1, 2, 2), 1, 0);
        Kit.due(x, "cases(1, 0, 1)", x.cases(1, 0, 1), 0, 0);
        Kit.due(x, "cases(1, 0, 3)", x.cases(1, 0, 3), -1, 1);
        Kit.due(x, "cases(1, 0, -1)", x.cases(1, 0, -1), -1, 1);
        Kit.due(x, "cases(1, 3, 0)", x.cases(1, 3, 0), -1, 1);
        x.aside(1, 2, true);
        Kit.due("open(1) with far aside", x.open(1), 2);
        Kit.due("cases(1, 2, 0)", x.cases(1, 2, 0), 0);
        x.aside(1, 2, false);
        Kit.due("open(1) as it was", x.open(1), 4);
        FinerSteps y = Kit.of(SUMS);
        Kit.due("open(0)", y.open(0), 0);
        Kit.due("open(1)", y.open(1), 0);
        y.aside(0, 0, true);
        Kit.due("inc aside: two duties of two events", y.open(1), 4);
    }

    private static void runByHand() { // promises 22, 23, 24
        FinerSteps x = Kit.of(SUMS);
        Kit.due(x, "step without a run", x.step(0, 0), -1, 1);
        Kit.due(x, "now without a run", x.now(1), -1, 1);
        Kit.due(x, "beside without a run", x.beside(0), -1, 1);
        Kit.due(x, "run(2)", x.run(2), -1, 1);
        Kit.due(x, "run(1)", x.run(1), 0, 0);
        int[] first = {1, 0, 0, 1, 3};
        for (int what = 0; what < 5; what++) {
            Kit.due(x, "now(" + what + ")", x.now(what), first[what], 0);
        }
        Kit.due(x, "now(5)", x.now(5), -1, 1);
        Kit.due(x, "now(-1)", x.now(-1), -1, 1);
        Kit.due(x, "step(0, 0)", x.step(0, 0), 4, 0);
        Kit.due(x, "step(0, 1)", x.step(0, 1), -1, 2);
        Kit.due(x, "step(4, 1)", x.step(4, 1), -1, 1);
        Kit.due(x, "step(-1, 0)", x.step(-1, 0), -1, 1);
        Kit.due(x, "step(3, 0)", x.step(3, 0), 1, 0);
        Kit.due(x, "step(2, 0): x is 0", x.step(2, 0), -1, 5);
        Kit.due("now(1)", x.now(1), 1);
        Kit.due("now(2)", x.now(2), 2);
        Kit.due("now(4)", x.now(4), 3);
        x.aside(1, 0, true);
        Kit.due("now(4) with up aside", x.now(4), 2);
        Kit.due(x, "step(0, 0) aside", x.step(0, 0), -1, 5);
        Kit.due(x, "run(9)", x.run(9), -1, 1);
        Kit.due("a refusal leaves the run", x.now(2), 2);
        Kit.due(x, "run(0)", x.run(0), 0, 0);
        Kit.due("now(0)", x.now(0), 0);
        Kit.due("now(2)", x.now(2), 0);
        Kit.due("beside machine 0", x.now(3), 0);
        Kit.due("beside(0)", x.beside(0), -2);
        FinerSteps y = Kit.of(FAILS);
        y.run(1);
        y.step(0, 2);
        y.step(1, 0);
        Kit.due("far can be, but gives none", y.now(4), 1);
        Kit.due(y, "step(2, 0)", y.step(2, 0), -1, 5);
        Kit.due("now(1)", y.now(1), 0);
    }

    private static void beside() { // promise 25
        FinerSteps x = Kit.of(THREE);
        x.run(1);
        Kit.due(x, "beside(0)", x.beside(0), 1, 0);
        Kit.due(x, "beside(1)", x.beside(1), -2, 0);
        Kit.due(x, "beside(-1)", x.beside(-1), -1, 1);
        // p = 3 goes to 2, 4; q = 0 is glued with both
        Kit.due("step(0, 3)", x.step(0, 3), 0);
        Kit.due("now(3)", x.now(3), 2);
        Kit.due("beside(0)", x.beside(0), 0);
        Kit.due("beside(1)", x.beside(1), 2);
        Kit.due("beside(2)", x.beside(2), -2);
        // from 2 and 4 both can come to each, so both stay
        Kit.due("step(0, 3)", x.step(0, 3), 0);
        Kit.due("now(3)", x.now(3), 2);
        Kit.due("step(0, 5)", x.step(0, 5), 2);
        Kit.due("beside(0): from 2 to 4", x.beside(0), 2);
        Kit.due("now(3)", x.now(3), 1);
        // from 4 a can't give 4 again
        Kit.due("step(0, 5)", x.step(0, 5), 2);
        Kit.due("none beside", x.now(3), 0);
        Kit.due("step(0, 4)", x.step(0, 4), 1);
        Kit.due("and none comes again", x.now(3), 0);
        x.run(2);
        Kit.due("new ones leave them", x.step(1, 0), 3);
        Kit.due("now(3)", x.now(3), 1);
        Kit.due("beside(0)", x.beside(0), 1);
        x.run(2);
        x.step(1, 0);
        x.aside(1, 0, true);
        Kit.due("now(3) stays", x.now(3), 1);
        Kit.due("step(0, 0)", x.step(0, 0), 2);
        Kit.due("what is aside gives none beside", x.now(3), 0);
        FinerSteps y = Kit.of(FAILS);
        y.run(1);
        Kit.due("not glued at the beginning", y.now(3), 0);
    }

    private static void draws() { // promise 26
        FinerSteps x = Kit.of("machine a;var n from 0 to 9 at 0;event go any 0 to 9 when 1 = 1 do n = pick");
        Kit.due(x, "draws without a run", x.draws(0, -1), -1, 1);
        x.run(0);
        Kit.due(x, "draws(0, 1)", x.draws(0, 1), -1, 2);
        Kit.due(x, "draws(41, 1)", x.draws(41, 1), -1, 2);
        Kit.due(x, "draws(1, -1)", x.draws(1, -1), -1, 2);
        Kit.due("now(2)", x.now(2), 0);
        int[] seeds = {0, 1, 42, Integer.MAX_VALUE};
        for (int seed : seeds) {
            long z = seed;
            for (int n = 1; n <= 40; n++) {
                z = (1103515245L * z + 12345L) & 0x7fffffffL;
                x.run(0);
                Kit.due(x, "draws(" + n + ", " + seed + ")", x.draws(n, seed), n, 0);
                Kit.due("now(1) behind draws(" + n + ", " + seed + ")", x.now(1), (z >> 16) % 10);
                Kit.due("now(2)", x.now(2), n);
            }
        }
        FinerSteps y = Kit.of("machine a;var n from 0 to 3 at 0;event off when n < 9 do n = 9;event go when n < 3 do n = n + 1");
        y.run(0);
        Kit.due("draws(2, 5)", y.draws(2, 5), 2);
        Kit.due("draws(40, 5): it ends", y.draws(40, 5), 1);
        Kit.due("draws(40, 5): at the end", y.draws(40, 5), 0);
        Kit.due("trouble()", y.trouble(), 0);
        Kit.due("now(1)", y.now(1), 3);
        Kit.due("now(2)", y.now(2), 3);
        FinerSteps w = Kit.of("machine a;var n from 0 to 1 at 0;var k from 0 to 9 at 0;"
                + "event p any 1 to 2 when n = 0 and pick = 2 do k = 1;event q any 0 to 1 when n = 0 do k = 2 + pick");
        long z = (1103515245L * 77 + 12345L) & 0x7fffffffL;
        w.run(0);
        w.draws(1, 77);
        Kit.due("of three by numbers, by picks", w.now(1), 1 + (z >> 16) % 3);
    }

    private static void ways() { // promises 27, 28, 29, 30
        FinerSteps x = Kit.of("machine a;var n from 0 to 9 at 2;law n < 6;event two when n < 7 do n = n + 2;"
                + "event three when n < 9 do n = n + 3");
        // 2 -> 4, 5 -> 6, 7 (4), 7, 8 (5) -> 8, 9 (6)
        Kit.due(x, "reach(0)", x.reach(0), 7, 0);
        int[] steps = {-2, -2, 0, -2, 1, 1, 2, 2, 2, 3};
        for (int s = 0; s < 10; s++) {
            Kit.due(x, "steps(0, " + s + ")", x.steps(0, s), steps[s], 0);
        }
        Kit.due(x, "stuck(0): 7 ahead of 8 and 9", x.stuck(0), 7, 0);
        Kit.due(x, "unsound(0)", x.unsound(0), 4, 0);
        x.aside(0, 0, true);
        Kit.due("reach(0) by three alone: 2 5 8", x.reach(0), 3);
        Kit.due("stuck(0)", x.stuck(0), 8);
        Kit.due("unsound(0)", x.unsound(0), 1);
        x.aside(0, 1, true);
        Kit.due("reach(0) by none", x.reach(0), 1);
        Kit.due("stuck(0) by none", x.stuck(0), 2);
        Kit.due(x, "reach(1)", x.reach(1), -1, 1);
        Kit.due(x, "steps(0, 10)", x.steps(0, 10), -1, 1);
        Kit.due(x, "steps(0, -1)", x.steps(0, -1), -1, 1);
        Kit.due(x, "steps(1, 0)", x.steps(1, 0), -1, 1);
        Kit.due(x, "stuck(1)", x.stuck(1), -1, 1);
        Kit.due(x, "stuck(-1)", x.stuck(-1), -1, 1);
        Kit.due(x, "unsound(1)", x.unsound(1), -1, 1);
        FinerSteps y = Kit.of("machine a;var n from 0 to 5 at 5;event e any 0 to 1 when n = 5 do n = 3 - pick;"
                + "event f when n = 3 do n = n;event g when n = 2 do n = 0;event h when n = 0 do n = 9");
        Kit.due("to itself is a step, to no state is none", y.stuck(0), 0);
        Kit.due("reach(0)", y.reach(0), 4);
        y.aside(0, 1, true);
        Kit.due("of fewer steps first", y.stuck(0), 3);
        y.aside(0, 2, true);
        Kit.due("of like ones by numbers", y.stuck(0), 2);
        FinerSteps z = Kit.of(SUMS);
        Kit.due("stuck(0)", z.stuck(0), -2);
        Kit.due("stuck(1)", z.stuck(1), -2);
        Kit.due("reach(1)", z.reach(1), 12);
        Kit.due("unsound(1)", z.unsound(1), 0);
        FinerSteps w = Kit.of(FAILS);
        Kit.due("unsound(1): 3", w.unsound(1), 1);
    }

    private static void aside() { // promise 31
        FinerSteps x = Kit.of(SUMS);
        Kit.due(x, "aside(1, 2, false)", x.aside(1, 2, false), -1, 5);
        Kit.due(x, "aside(1, 2, true)", x.aside(1, 2, true), 1, 0);
        Kit.due(x, "aside(1, 2, true)", x.aside(1, 2, true), -1, 5);
        Kit.due(x, "aside(1, 0, true)", x.aside(1, 0, true), 2, 0);
        Kit.due(x, "aside(0, 0, true)", x.aside(0, 0, true), 1, 0);
        Kit.due(x, "aside(1, 2, false)", x.aside(1, 2, false), 1, 0);
        Kit.due(x, "aside(1, 4, true)", x.aside(1, 4, true), -1, 1);
        Kit.due(x, "aside(2, 0, false)", x.aside(2, 0, false), -1, 1);
        Kit.due(x, "aside(-1, 0, true)", x.aside(-1, 0, true), -1, 1);
        Kit.due("event(1, 0, 4)", x.event(1, 0, 4), 1);
        Kit.due("event(1, 2, 4)", x.event(1, 2, 4), 0);
        Kit.due("sound states stay", x.machine(1, 6), 12);
    }

    private static void letters() { // promise 32
        FinerSteps x = Kit.of("machine abcxyz;var nn from 0 to 1 at 0;machine zebra;var zzzzzzz from 0 to 1 at 0;var a from 0 to 1 at 0");
        String name = "abcxyz";
        for (int k = 0; k < name.length(); k++) {
            Kit.due("letter(0, -1, " + k + ")", x.letter(0, -1, k), name.charAt(k) - 'a');
        }
        for (int k = 0; k < 7; k++) {
            Kit.due("letter(1, 0, " + k + ")", x.letter(1, 0, k), 25);
        }
        Kit.due("letter(1, 1, 0)", x.letter(1, 1, 0), 0);
        Kit.due("letter(1, -1, 4)", x.letter(1, -1, 4), 0);
        Kit.dueNoLetter(x, 0, -1, 6);
        Kit.dueNoLetter(x, 0, -1, -1);
        Kit.dueNoLetter(x, 0, -2, 0);
        Kit.dueNoLetter(x, 0, 1, 0);
        Kit.dueNoLetter(x, 1, 0, 7);
        Kit.dueNoLetter(x, 1, 1, 1);
        Kit.dueNoLetter(x, 2, -1, 0);
        Kit.dueNoLetter(x, -1, -1, 0);
    }

    private static void troubleKeepers() { // promise 34: calls of which no number is told leave it
        FinerSteps x = Kit.of(SUMS);
        x.can(0, 0, 0, 1);
        Kit.due("trouble()", x.trouble(), 2);
        x.size();
        x.fault();
        x.where();
        Kit.due("letter", x.letter(0, -1, 0), 't' - 'a');
        Kit.dueNoLetter(x, 9, 9, 9);
        x.feed(0, 0, 0, 0, 0);
        Kit.due("trouble() behind what can't be refused", x.trouble(), 2);
        x.octet(0);
        Kit.due("trouble() behind octet(0)", x.trouble(), 0);
    }
}
